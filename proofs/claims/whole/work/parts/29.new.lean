/-! SOUNDNESS, FIVE: new cells, copies, statics. -/
theorem q_def_ok : ∀ (c : Nat) (q : vw_C), q_cls[c]? = some q → ∀ j, j < q.2.2 → defaultValue (q_ty c j) = if q_isr c j = true then .null else .int 0 := by
  have key : ∀ c, c < 14 → ∀ j, j < (q_clq c).2.2 → defaultValue (q_ty c j) = if q_isr c j = true then .null else .int 0 := by decide +kernel
  intro c q h j hj
  have hc : c < 14 := by have := (List.getElem?_eq_some_iff.mp h).1; rw [q_cls_len] at this; exact this
  have e := q_clq_at hc
  rw [h] at e
  cases e
  exact key c hc j hj
theorem q_zero_lt {α : Type} {f : Nat → Nat → α} {n k j : Nat} {v : α} (h : k < n) : q_zero f n v k j = f k j := if_neg (fun z => by omega)
theorem q_zero_hi {α : Type} {f : Nat → Nat → α} {n k j : Nat} {v : α} (h : 1000 ≤ k) : q_zero f n v k j = f k j := if_neg (fun z => by omega)
theorem q_zero_ge {α : Type} {f : Nat → Nat → α} {n k j : Nat} {v : α} (h : n ≤ k) (h2 : k < 1000) : q_zero f n v k j = v := if_pos ⟨h, h2⟩
def q_kN (o a b : Nat) (t : List Nat) (ins : Instr) (len : Nat) : Bool := match ins with
  | .new idx => len == 3 && decide (b < 14) && a == q_nf b && (match t with | f :: _ => q_nt[f]? == some (o, idx, (q_clq b).1) | [] => false)
  | _ => false
def q_kNA (b : Nat) (ins : Instr) (len : Nat) : Bool := match ins with
  | .newarray ty => len == 2 && ((b == 0 && decide (ty = .int)) || (b == 1 && decide (ty = .long)) || (b == 2 && decide (ty = .byte)))
  | _ => false
def q_kNM (o b : Nat) (t : List Nat) (ins : Instr) (len : Nat) : Bool := match ins with
  | .multianewarray idx d => len == 4 && d == 2 && ((b == 3 && (match t with | f :: _ => q_nt[f]? == some (o, idx, "[[I") | [] => false)) || (b == 4 && (match t with | f :: _ => q_nt[f]? == some (o, idx, "[[J") | [] => false)))
  | _ => false
def q_nw (e : Nat × Nat × String) : Jvm.Cond := .classLink (q_ow e.1) e.2.1 e.2.2
/-- the words for a new object of kind b -/
def q_bw (b : Nat) : List Jvm.Cond := [.instantiable (q_clq b).1 (q_nf b), .initialized (q_clq b).1]
section QN
variable {p : Program} {l : Launch} {e : Env} {R : Room} {s : State} {m : MethodId} {args : Array Value} {below : List Frame} {meth : Method} {c : Code} {H : Heap} {locs : List Loc} {cells slots : Nat} {Q : State → Prop}
variable {cc : ByteArray} {bp bq : Nat} {ll : Array Slot} {G : q_G} {S : q_S} {ins : Instr} {len : Nat} {Ts : List Jvm.Cond} {own a b n0 s0 : Nat} {t : List Nat}
theorem q_size {g : JFrame} (k : H.size ≤ s.heap.size + cells → W p l e R s m args below meth c H locs cells slots Q g) : W p l e R s m args below meth c H locs cells slots Q g := fun T hT X => k (by rw [← hT]; exact X.heapSize) T hT X
theorem q_low (hP : va_P G.1 q_cls (q_ws G S) H) (hS : va_S (q_A G) s.heap H locs) (hn : s.heap.size = q_base G + n0) : q_base G + S.2.2.1.length ≤ H.size := by
  by_cases h : S.2.2.1.length = 0
  · have := hS.1
    omega
  · have hl : S.2.2.1.length - 1 < S.2.2.1.length := by omega
    have h1 := (hP _ _ (q_ws_at (G := G) (List.getElem?_eq_getElem hl))).lt
    have h2 : q_base G + (S.2.2.1.length - 1) < H.size := h1
    omega
theorem q_new_ws {sh : List (Nat × Nat)} {k n : Nat} : (q_ws G (q_new S sh n))[k]? = if k < S.2.2.1.length then (q_ws G S)[k]? else (sh[k - S.2.2.1.length]?).map (fun q => (q_base G + k, q_ce G (q_new S sh n) k q)) := by
  rw [q_ws_get]
  show ((S.2.2.1 ++ sh)[k]?).map _ = _
  by_cases h : k < S.2.2.1.length
  · rw [if_pos h, List.getElem?_append_left h, q_ws_get]
    congr 1
    funext q
    rw [q_ce_cg (fun j => q_zero_lt h) (fun j => q_zero_lt h)]
  · rw [if_neg h, List.getElem?_append_right (by omega)]
theorem q_new_Ro {sh : List (Nat × Nat)} {n : Nat} (h : q_Ro G S) : q_Ro G (q_new S sh n) := q_Ro_m h (fun k j hk => q_zero_hi (by omega)) (fun k j hk => q_zero_hi (by omega))
theorem q_o35 (hx : p.tables.exec = Jvm.exec) (hb : c.code = cc) (hts : ∀ w ∈ Ts, w.before args s = true) (hlay : ∀ (k : Nat) (q : vw_C), q_cls[k]? = some q → ∀ w ∈ u_ws q.1 q.2.1 q.2.2, w ∈ Ts) (hnt : ∀ q ∈ q_nt, q_nw q ∈ Ts) (hbw : ∀ k, k < 14 → ∀ w ∈ q_bw k, w ∈ Ts) (hown : s.vm.findClass (q_ow own) = some m.cls) (hK : q_Kn G s) (hR : q_Rp G S H) (hS : va_S (q_A G) s.heap H locs) (hn : s.heap.size = q_base G + n0) (hc0 : cells = S.2.2.1.length - n0) (hn0 : n0 ≤ S.2.2.1.length)
    (hl9 : S.2.2.1.length < 900) (hcells : cells + 1 ≤ R.cells) (hslots : slots + a ≤ R.slots) (hd : decode cc bp = .ok (ins, len)) (hk : q_kN own a b t ins len = true) (hq : bq = bp + len) {rest : List Value}
    (kk : ∀ (H1 : Heap), q_Rp G (q_new S [(b + 5, a)] a) H1 → va_S (q_A G) s.heap H1 locs → W p l e R s m args below meth c H1 locs (cells + 1) (slots + a) Q (F0 m bq ll (q_rv G S.2.2.1.length :: rest))) : W p l e R s m args below meth c H locs cells slots Q (F0 m bp ll rest) := by
  subst hq
  refine q_size fun hsz => ?_
  obtain ⟨hP, r2, r3, r4⟩ := hR
  have hlo := q_low hP hS hn
  have hH : H.size = q_base G + S.2.2.1.length := by omega
  unfold q_kN at hk
  split at hk
  · rename_i idx
    cases t with
    | nil => simp at hk
    | cons f t =>
      simp only [Bool.and_eq_true, beq_iff_eq, decide_eq_true_eq] at hk
      obtain ⟨⟨⟨rfl, hb14⟩, rfl⟩, hf⟩ := hk
      have hKn := hK.1.1 b _ (q_clq_at hb14)
      have hok := q_cls_ok b _ (q_clq_at hb14)
      rw [q_rvo (show S.2.2.1.length < 1000 by omega)] at kk
      have hw1 := hts _ (hbw b hb14 _ (by unfold q_bw; exact List.mem_cons_self))
      have hw2 := hts _ (hbw b hb14 (.initialized (q_clq b).1) (by unfold q_bw; exact List.mem_cons_of_mem _ List.mem_cons_self))
      refine W.newcK hx hb hown (hts _ (hnt _ (List.mem_of_getElem? hf))) hw1 hw2 rfl hd hcells hslots hKn.2.1 hH fun H1 kC hkC e1 z1 o1 => ?_
      refine kk H1 ⟨fun k q hq => ?_, ?_, ?_, q_new_Ro r4⟩ ⟨Nat.le_trans hS.1 (by omega), fun x h1 h2 => (o1 x (by have := hS.1; omega)).trans (hS.2.1 x h1 h2), hS.2.2⟩
      · rw [q_new_ws] at hq
        by_cases h : k < S.2.2.1.length
        · rw [if_pos h] at hq
          have hl := (hP k q hq).lt
          exact (hP k q hq).kept (o1 q.1 (by omega))
        · rw [if_neg h] at hq
          have hz : k - S.2.2.1.length = 0 := by
            cases hz : k - S.2.2.1.length with
            | zero => rfl
            | succ z => rw [hz] at hq; simp at hq
          obtain rfl : k = S.2.2.1.length := by omega
          rw [hz] at hq
          simp only [List.getElem?_cons_zero, Option.map_some] at hq
          cases hq
          refine ⟨q_clq b, q_clq_at hb14, (u_born (q_ty b) hts (hlay b _ (q_clq_at hb14)) hKn hkC e1 hok.1).to fun j hj => ?_⟩
          have hj2 : j < q_nf b := by rw [q_nf_at hb14]; exact hj
          rw [q_def_ok b _ (q_clq_at hb14) j hj]
          unfold vp_V
          rw [List.getD_eq_getElem?_getD, q_fvs hj2]
          show _ = q_fv G (q_new S _ _) b S.2.2.1.length j
          unfold q_fv q_new
          dsimp only
          rw [q_zero_ge (Nat.le_refl _) (by omega), q_zero_ge (Nat.le_refl _) (by omega)]
          rfl
      · show (S.2.2.1 ++ _).length ≤ 1000
        simp only [List.length_append, List.length_cons, List.length_nil]
        omega
      · intro q hq
        rcases List.mem_append.mp hq with h | h
        · exact r3 q h
        · simp only [List.mem_cons, List.not_mem_nil, or_false] at h
          subst h
          have : ∀ b, b < 14 → q_nf b ≤ 65536 := by decide +kernel
          exact this b hb14
  · cases hk
theorem q_o36 (hx : p.tables.exec = Jvm.exec) (hb : c.code = cc) (hts : ∀ w ∈ Ts, w.before args s = true) (haw : ∀ ty ∈ [FieldType.int, .long, .byte], Jvm.Cond.arrayClass ty ∈ Ts) (hK : q_Kn G s) (hR : q_Rp G S H) (hS : va_S (q_A G) s.heap H locs) (hn : s.heap.size = q_base G + n0) (hc0 : cells = S.2.2.1.length - n0) (hn0 : n0 ≤ S.2.2.1.length)
    {n : Int} (hl9 : S.2.2.1.length < 900 ∧ 0 ≤ n ∧ n < 65536) (hcells : cells + 1 ≤ R.cells) (hslots : slots + n.toNat ≤ R.slots) (hd : decode cc bp = .ok (ins, len)) (hk : q_kNA b ins len = true) (hq : bq = bp + len) {rest : List Value}
    (kk : ∀ (H1 : Heap), q_Rp G (q_new S [(b, n.toNat)] n.toNat) H1 → va_S (q_A G) s.heap H1 locs → W p l e R s m args below meth c H1 locs (cells + 1) (slots + n.toNat) Q (F0 m bq ll (q_rv G S.2.2.1.length :: rest))) : W p l e R s m args below meth c H locs cells slots Q (F0 m bp ll (.int (Int32.ofInt n) :: rest)) := by
  subst hq
  refine q_size fun hsz => ?_
  obtain ⟨hP, r2, r3, r4⟩ := hR
  obtain ⟨h9, n1, n2⟩ := hl9
  have hlo := q_low hP hS hn
  have hH : H.size = q_base G + S.2.2.1.length := by omega
  rw [q_rvo (show S.2.2.1.length < 1000 by omega)] at kk
  obtain ⟨N, rfl⟩ := Int.eq_ofNat_of_zero_le n1
  have eN : Int32.ofInt (N : Int) = nI N := by simp [nI, Int32.ofInt_eq_ofNat]
  have hcl : (nI N).toNatClampNeg = N := nI_clamp (by omega)
  have hpos : ¬ nI N < 0 := by
    intro h
    have := nI_pos (n := N) (by omega)
    exact this h
  rw [eN]
  simp only [Int.toNat_natCast] at kk hslots
  have fin : ∀ (H1 : Heap) (cA : ClassId) (x : vp_A), H1[q_base G + S.2.2.1.length]? = some (vp_cell cA x) → (Sum.inl (cA, x) : va_E) = q_ce G (q_new S [(b, N)] N) S.2.2.1.length (b, N) → H1.size = q_base G + S.2.2.1.length + 1 → (∀ q, q < q_base G + S.2.2.1.length → H1[q]? = H[q]?) → q_Rp G (q_new S [(b, N)] N) H1 ∧ va_S (q_A G) s.heap H1 locs := by
    intro H1 cA x e1 hx1 z1 o1
    refine ⟨⟨fun k q hq => ?_, ?_, ?_, q_new_Ro r4⟩, ⟨Nat.le_trans hS.1 (by omega), fun x h1 h2 => (o1 x (by have := hS.1; omega)).trans (hS.2.1 x h1 h2), hS.2.2⟩⟩
    · rw [q_new_ws] at hq
      by_cases h : k < S.2.2.1.length
      · rw [if_pos h] at hq
        have hl := (hP k q hq).lt
        exact (hP k q hq).kept (o1 q.1 (by omega))
      · rw [if_neg h] at hq
        have hz : k - S.2.2.1.length = 0 := by
          cases hz : k - S.2.2.1.length with
          | zero => rfl
          | succ z => rw [hz] at hq; simp at hq
        obtain rfl : k = S.2.2.1.length := by omega
        rw [hz] at hq
        simp only [List.getElem?_cons_zero, Option.map_some] at hq
        cases hq
        rw [← hx1]
        exact e1
    · show (S.2.2.1 ++ _).length ≤ 1000
      simp only [List.length_append, List.length_cons, List.length_nil]
      omega
    · intro q hq
      rcases List.mem_append.mp hq with h | h
      · exact r3 q h
      · simp only [List.mem_cons, List.not_mem_nil, or_false] at h
        subst h
        show N ≤ 65536
        omega
  have zz : ∀ k j, k = S.2.2.1.length → (q_new S [(b, N)] N).1 k j = 0 := fun k j h => by subst h; exact q_zero_ge (Nat.le_refl _) (by omega)
  unfold q_kNA at hk
  split at hk
  · rename_i ty
    simp only [Bool.and_eq_true, Bool.or_eq_true, beq_iff_eq, decide_eq_true_eq] at hk
    obtain ⟨rfl, (⟨rfl, rfl⟩ | ⟨rfl, rfl⟩) | ⟨rfl, rfl⟩⟩ := hk
    · refine va_newaK (atype := .int) hx hb (hts _ (haw _ (by simp [newarray.typeOf]))) rfl hd rfl hpos hcl (by simp [newarray.typeOf, componentBytes]; omega) hcells hslots hH fun H1 cA e1 z1 o1 hAr hNm => ?_
      obtain ⟨f1, f2⟩ := fin H1 cA (N, .inl (fun _ => 0)) e1 (by
        have : cA = q_cI G := by have h2 := (hK.1.2 0 _ rfl).2; exact Option.some.inj (hNm.symm.trans h2)
        subst this
        show _ = (Sum.inl (q_cI G, N, Sum.inl _) : va_E)
        congr 4
        funext j
        rw [zz _ _ rfl]; rfl) z1 o1
      exact kk H1 f1 f2
    · refine va_newaK (atype := .long) hx hb (hts _ (haw _ (by simp [newarray.typeOf]))) rfl hd rfl hpos hcl (by simp [newarray.typeOf, componentBytes]; omega) hcells hslots hH fun H1 cA e1 z1 o1 hAr hNm => ?_
      obtain ⟨f1, f2⟩ := fin H1 cA (N, .inr (.inl (fun _ => 0))) e1 (by
        have : cA = q_cJ G := by have h2 := (hK.1.2 1 _ rfl).2; exact Option.some.inj (hNm.symm.trans h2)
        subst this
        show _ = (Sum.inl (q_cJ G, N, Sum.inr (Sum.inl _)) : va_E)
        congr 5
        funext j
        rw [zz _ _ rfl]; rfl) z1 o1
      exact kk H1 f1 f2
    · refine va_newaK (atype := .byte) hx hb (hts _ (haw _ (by simp [newarray.typeOf]))) rfl hd rfl hpos hcl (by simp [newarray.typeOf, componentBytes]; omega) hcells hslots hH fun H1 cA e1 z1 o1 hAr hNm => ?_
      obtain ⟨f1, f2⟩ := fin H1 cA (N, .inl (fun _ => 0)) e1 (by
        have : cA = q_cB G := by have h2 := (hK.1.2 2 _ rfl).2; exact Option.some.inj (hNm.symm.trans h2)
        subst this
        show _ = (Sum.inl (q_cB G, N, Sum.inl _) : va_E)
        congr 4
        funext j
        rw [zz _ _ rfl]; rfl) z1 o1
      exact kk H1 f1 f2
  · cases hk
end QN
