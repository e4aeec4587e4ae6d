/-! FROM A RUN OF THE ABSTRACT MACHINE TO THE CLAIM -/
def q_pr0 (k j : Nat) : Int := if k = 1002 then q_pr j else if k = 1003 then q_dt j else if k = 1004 then q_do j else 0
/-- the state in which the law begins: a script of L ints -/
def q_S0 (L : Nat) (xs : Nat → Int32) : q_S := (fun k j => if k = 1001 then (xs j).toInt else q_pr0 k j, fun k j => if k = 1001 ∧ j = 0 then L else 1000, [], 0)
def q_ls0 : List q_V := [.inr (.inr 1001), q_dead, q_dead, q_dead]
theorem q_weaken {p : Program} {l : Launch} {e : Env} {R : Room} {s : State} {m : MethodId} {args : Array Value} {below : List Frame} {meth : Method} {c : Code} {H : Heap} {locs : List Loc} {cells slots : Nat} {Q Q' : State → Prop} {g : JFrame} (h : ∀ t, Q t → Q' t) (k : W p l e R s m args below meth c H locs cells slots Q g) : W p l e R s m args below meth c H locs cells slots Q' g := fun T hT X => by
  obtain ⟨t, a, b⟩ := k T hT X
  exact ⟨t, a, h t b⟩
theorem q_wide {s s' : State} {L : List Loc} {k n k2 n2 : Nat} (h : s.sameButNew s' L k n) (h1 : k ≤ k2) (h2 : n ≤ n2) : s.sameButNew s' L k2 n2 := by
  obtain ⟨a1, a2, a3, a4, a5, a6⟩ := h
  exact ⟨a1, a2, Nat.le_trans a3 (Nat.add_le_add_left h1 _), a4, Nat.le_trans a5 h2, a6⟩
theorem q_whole {p : Program} {e : Env} {s : State} {m : MethodId} {below : List Frame} {meth : Method} {c : Code} (l : Launch) {b L : Nat} {xs : Nat → Int32} (hL : L ≤ 3072) (C0 : lw_At p s m meth c b L xs) (hrun : ∃ n S', q_run q_P n 296 0 q_ls0 [] (q_S0 L xs) = some (.inl 1, S') ∧ S'.2.2.1.length ≤ 600000 ∧ S'.2.2.2 ≤ 7302250) : W p l e room_1 s m #[Value.ref b] below meth c s.heap [] 0 0 (lw_Z below #[Value.ref b] s) (entryFrame m ([Value.ref b] : List Value).toArray 4) := by
  obtain ⟨G, e1, e2, e3, e4, hK⟩ := q_start C0
  obtain ⟨n, S', hr1, hb1, hb2⟩ := hrun
  obtain ⟨hx, hb, hr, hml, hown, hts, hX, hbl, hlocks, hgv, hnm⟩ := C0
  obtain ⟨-, W1⟩ := q_sound q_Tabs_ok q_Chk_ok l G n 296 0 q_ls0 [] (q_S0 L xs) (.inl 1) S' hr1
  have hG := hK.2.2.2.2.2.2.2.2.2.2.2.2
  obtain ⟨hLs, hLl⟩ := q_entry (G := G) hG (as := [.inr (.inr 1001)]) (n := 4) (by decide)
  have hcv : ([(.inr (.inr 1001) : q_V)]).map (q_cv G) = [Value.ref b] := by
    rw [← e2]; rfl
  rw [hcv] at hLs
  rw [lg_entry_eq]
  have hR : q_Rp G (q_S0 L xs) s.heap := by
    refine ⟨fun k q hq => by simp [q_ws, q_S0] at hq, Nat.zero_le _, fun q hq => by simp [q_S0] at hq, ?_, ?_, ?_, ?_, ?_, ?_⟩
    · intro j _
      rw [e4]
      show Int32.ofInt (xs j).toInt = xs j
      simp
    · rw [e3]; rfl
    · rw [e3]; omega
    · intro j _; rfl
    · intro j _; rfl
    · intro j _; rfl
  have h := W1 (p := p) (e := e) (R := room_1) (s := s) (m := m) (args := #[Value.ref b]) (below := below) (meth := meth) (c := c) (H := s.heap) (locs := []) 0 0 ⟨hx, hb, hml, q_hTs hts, hown, hr, hlocks, hnm, hK, by rw [e1]; rfl, by decide +kernel, by decide +kernel⟩ hLs hLl hR va_S.rf (Nat.le_refl _) (Nat.le_refl _) ⟨by rw [Nat.sub_zero]; exact hb1, by rw [Nat.sub_zero]; exact hb2⟩
  refine q_weaken ?_ h
  rintro t ⟨o, g1, g2, ⟨g3, -, -, -⟩, L1, ⟨g4, g5, g6⟩, g7⟩
  refine ⟨o, g1, g2, g3, g4, g5, ?_⟩
  have g8 := State.sameButNew.drop_fresh (L := []) (J := L1) (by simpa using g6) (fun x hx => by have := g7 x hx; unfold q_A at this; omega)
  exact q_wide g8 hb1 hb2
