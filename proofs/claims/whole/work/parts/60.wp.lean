/-! REASONING ABOUT THE ABSTRACT MACHINE: z_T: from here it comes to an answer with Q; z_wp: what is to be shown, computed along the code up to loops and calls -/
theorem z_run_mono : ∀ (n j pc : Nat) (ls st : List q_V) (S : q_S) (x : q_V × q_S), q_run q_P n j pc ls st S = some x → q_run q_P (n + 1) j pc ls st S = some x
  | 0, _, _, _, _, _, _, h => by simp [q_run] at h
  | n + 1, j, pc, ls, st, S, x, h => by
    unfold q_run at h ⊢
    cases hi : (q_P j).1[pc]? with
    | none => rw [hi] at h; cases h
    | some i =>
      rw [hi] at h
      dsimp only at h ⊢
      by_cases h50 : i.1 = 50
      · rw [if_pos h50] at h ⊢
        cases hc : q_call i ls st S with
        | none => rw [hc] at h; cases h
        | some y =>
          obtain ⟨b, as, rs⟩ := y
          rw [hc] at h
          dsimp only at h ⊢
          by_cases hl : (q_P b).2 < (q_args as).length
          · rw [if_pos hl] at h; cases h
          · rw [if_neg hl] at h ⊢
            cases hr : q_run q_P n b 0 (q_pad (q_args as) (q_P b).2) [] S with
            | none => rw [hr] at h; cases h
            | some z =>
              obtain ⟨v, S1⟩ := z
              rw [hr] at h
              rw [z_run_mono n _ _ _ _ _ _ hr]
              exact z_run_mono n _ _ _ _ _ _ h
      · rw [if_neg h50] at h ⊢
        by_cases h51 : i.1 = 51
        · rw [if_pos h51] at h ⊢; exact h
        · rw [if_neg h51] at h ⊢
          by_cases h52 : i.1 = 52
          · rw [if_pos h52] at h ⊢; exact h
          · rw [if_neg h52] at h ⊢
            cases hs : q_step i pc ls st S with
            | none => rw [hs] at h; cases h
            | some y =>
              obtain ⟨pc', ls', st', S'⟩ := y
              rw [hs] at h
              exact z_run_mono n _ _ _ _ _ _ h
theorem z_run_le {n k j pc : Nat} {ls st : List q_V} {S : q_S} {x : q_V × q_S} (h : q_run q_P n j pc ls st S = some x) (hk : n ≤ k) : q_run q_P k j pc ls st S = some x := by
  obtain ⟨d, rfl⟩ := Nat.exists_eq_add_of_le hk
  induction d with
  | zero => exact h
  | succ d ih => exact z_run_mono _ _ _ _ _ _ _ (ih (Nat.le_add_right _ _))
def z_T (j pc : Nat) (ls st : List q_V) (S : q_S) (Q : q_V → q_S → Prop) : Prop := ∃ n r S', q_run q_P n j pc ls st S = some (r, S') ∧ Q r S'
/-- a whole call of method j with these arguments -/
def z_C (j : Nat) (as : List q_V) (S : q_S) (Q : q_V → q_S → Prop) : Prop := z_T j 0 (q_pad (q_args as) (q_P j).2) [] S Q
theorem z_T.imp {j pc : Nat} {ls st : List q_V} {S : q_S} {Q Q' : q_V → q_S → Prop} (h : z_T j pc ls st S Q) (hq : ∀ r S', Q r S' → Q' r S') : z_T j pc ls st S Q' := by
  obtain ⟨n, r, S', h1, h2⟩ := h
  exact ⟨n, r, S', h1, hq _ _ h2⟩
theorem z_T_step {j pc : Nat} {ls st : List q_V} {S : q_S} {Q : q_V → q_S → Prop} {i : q_I} {pc' : Nat} {ls' st' : List q_V} {S' : q_S} (hi : (q_P j).1[pc]? = some i) (h50 : ¬ i.1 = 50) (h51 : ¬ i.1 = 51) (h52 : ¬ i.1 = 52) (hs : q_step i pc ls st S = some (pc', ls', st', S')) (h : z_T j pc' ls' st' S' Q) : z_T j pc ls st S Q := by
  obtain ⟨n, r, S2, h1, h2⟩ := h
  refine ⟨n + 1, r, S2, ?_, h2⟩
  unfold q_run
  rw [hi]
  dsimp only
  rw [if_neg h50, if_neg h51, if_neg h52, hs]
  exact h1
theorem z_T_ret {j pc : Nat} {ls st : List q_V} {S : q_S} {Q : q_V → q_S → Prop} {i : q_I} {v : q_V} (hi : (q_P j).1[pc]? = some i) (h51 : i.1 = 51) (hs : q_ret i st = some v) (h : Q v S) : z_T j pc ls st S Q := by
  refine ⟨1, v, S, ?_, h⟩
  unfold q_run
  rw [hi]
  dsimp only
  rw [if_neg (by rw [h51]; decide), if_pos h51, hs]
  rfl
theorem z_T_retv {j pc : Nat} {ls : List q_V} {S : q_S} {Q : q_V → q_S → Prop} {i : q_I} (hi : (q_P j).1[pc]? = some i) (h52 : i.1 = 52) (h : Q q_dead S) : z_T j pc ls [] S Q := by
  refine ⟨1, q_dead, S, ?_, h⟩
  unfold q_run
  rw [hi]
  dsimp only
  rw [if_neg (by rw [h52]; decide), if_neg (by rw [h52]; decide), if_pos h52]
theorem z_T_call {j pc : Nat} {ls st : List q_V} {S : q_S} {Q : q_V → q_S → Prop} {i : q_I} {b : Nat} {as rs : List q_V} (hi : (q_P j).1[pc]? = some i) (h50 : i.1 = 50) (hs : q_call i ls st S = some (b, as, rs)) (hl : ¬ (q_P b).2 < (q_args as).length) (h : z_C b as S (fun v S' => z_T j (pc + 1) ls (q_push v rs) S' Q)) : z_T j pc ls st S Q := by
  obtain ⟨n, v, S1, h1, k, r, S2, h2, h3⟩ := h
  refine ⟨n + k + 1, r, S2, ?_, h3⟩
  unfold q_run
  rw [hi]
  dsimp only
  rw [if_pos h50, hs]
  dsimp only
  rw [if_neg hl, z_run_le h1 (Nat.le_add_right n k)]
  exact z_run_le h2 (Nat.le_add_left k n)
/-- in range: index i of a row of n -/
def z_in (i : Int) (n : Nat) : Prop := 0 ≤ i ∧ i < n
def z_go (cs : List Nat) (j : Nat) (Q : q_V → q_S → Prop) (f : Nat → List q_V → List q_V → q_S → (q_V → q_S → Prop) → Prop) (pc : Nat) (ls st : List q_V) (S : q_S) : Prop := if cs.contains pc = true then z_T j pc ls st S Q else f pc ls st S Q
def z_swp (k : Nat → Prop) (z x : Int) : List Nat → Nat → Prop
  | [], d => k d
  | t :: r, d => (x = z → k t) ∧ (¬ x = z → z_swp k (z + 1) x r d)
def z_lkp (k : Nat → Prop) (x : Int) : List Nat → Nat → Prop
  | m :: t :: r, d => (x = (m : Int) → k t) ∧ (¬ x = (m : Int) → z_lkp k x r d)
  | _, d => k d
/-- what is to be shown: along the code, to the next loop's head (a place of cs), through calls as z_C -/
def z_wp (cd : List q_I) (j : Nat) (cs : List Nat) : Nat → Nat → List q_V → List q_V → q_S → (q_V → q_S → Prop) → Prop
  | 0, pc, ls, st, S, Q => z_T j pc ls st S Q
  | n + 1, pc, ls, st, S, Q => match cd[pc]? with
    | none => False
    | some (op, a, b, z, t) => match op with
      | 50 => match q_call (50, a, b, z, t) ls st S with
        | none => False
        | some (b', as, rs) => if (q_P b').2 < (q_args as).length then False else z_C b' as S (fun v S' => z_go cs j Q (z_wp cd j cs n) (pc + 1) ls (q_push v rs) S')
      | 51 => match q_ret (51, a, b, z, t) st with
        | some v => Q v S
        | none => False
      | 52 => match st with
        | [] => Q q_dead S
        | _ => False
      | 8 => match st with
        | .inl y :: .inl x :: r => if a = 9 ∨ a = 10 then (¬ q_w y = 0) ∧ z_go cs j Q (z_wp cd j cs n) (pc + 1) ls (.inl (q_bin a x y) :: r) S else z_go cs j Q (z_wp cd j cs n) (pc + 1) ls (.inl (q_bin a x y) :: r) S
        | _ => False
      | 10 => match st with
        | .inr (.inl y) :: .inr (.inl x) :: r => if a = 9 ∨ a = 10 then (¬ q_wl y = 0) ∧ z_go cs j Q (z_wp cd j cs n) (pc + 1) ls (.inr (.inl (q_lbin a x y)) :: r) S else z_go cs j Q (z_wp cd j cs n) (pc + 1) ls (.inr (.inl (q_lbin a x y)) :: r) S
        | _ => False
      | 17 => match st with
        | .inl x :: r => (q_cond a (q_w x) 0 = true → z_go cs j Q (z_wp cd j cs n) b ls r S) ∧ (q_cond a (q_w x) 0 = false → z_go cs j Q (z_wp cd j cs n) (pc + 1) ls r S)
        | _ => False
      | 18 => match st with
        | .inl y :: .inl x :: r => (q_cond a (q_w x) (q_w y) = true → z_go cs j Q (z_wp cd j cs n) b ls r S) ∧ (q_cond a (q_w x) (q_w y) = false → z_go cs j Q (z_wp cd j cs n) (pc + 1) ls r S)
        | _ => False
      | 26 => match st with
        | .inl x :: .inr (.inr o) :: r => if o < 1000 ∧ (S.2.2.1[o]?).map Prod.fst = some (b + 5) then (if z = 0 then z_go cs j Q (z_wp cd j cs n) (pc + 1) ls r (q_upd S.1 o a x, S.2) else ((z = 1 → x = 0 ∨ x = 1) ∧ (z = 2 → -128 ≤ x ∧ x < 128)) ∧ z_go cs j Q (z_wp cd j cs n) (pc + 1) ls r (q_upd S.1 o a x, S.2)) else False
        | _ => False
      | 28 => match st with
        | .inl i :: .inr (.inr o) :: r => match q_shp S o with
          | some (k, m) => if k = b then z_in i m ∧ z_go cs j Q (z_wp cd j cs n) (pc + 1) ls (.inl (S.1 o i.toNat) :: r) S else False
          | none => False
        | _ => False
      | 29 => match st with
        | .inl x :: .inl i :: .inr (.inr o) :: r => match S.2.2.1[o]? with
          | some (k, m) => if o < 1000 ∧ k = b then z_in i m ∧ z_go cs j Q (z_wp cd j cs n) (pc + 1) ls r (q_upd S.1 o i.toNat (if b = 2 then q_i2b x else x), S.2) else False
          | none => False
        | _ => False
      | 30 => match st with
        | .inl i :: .inr (.inr o) :: r => match S.2.2.1[o]? with
          | some (k, m) => if o < 1000 ∧ k = 1 then z_in i m ∧ z_go cs j Q (z_wp cd j cs n) (pc + 1) ls (.inr (.inl (S.1 o i.toNat)) :: r) S else False
          | none => False
        | _ => False
      | 31 => match st with
        | .inr (.inl x) :: .inl i :: .inr (.inr o) :: r => match S.2.2.1[o]? with
          | some (k, m) => if o < 1000 ∧ k = 1 then z_in i m ∧ z_go cs j Q (z_wp cd j cs n) (pc + 1) ls r (q_upd S.1 o i.toNat x, S.2) else False
          | none => False
        | _ => False
      | 32 => match st with
        | .inl i :: .inr (.inr o) :: r => match S.2.2.1[o]? with
          | some (k, m) => if o < 1000 ∧ k = b ∧ (b = 3 ∨ b = 4) then (z_in i m ∧ S.2.1 o i.toNat < 1000) ∧ z_go cs j Q (z_wp cd j cs n) (pc + 1) ls (.inr (.inr (S.2.1 o i.toNat)) :: r) S else False
          | none => False
        | _ => False
      | 38 => match st with
        | .inl x :: r => z_swp (fun pc' => z_go cs j Q (z_wp cd j cs n) pc' ls r S) z (q_w x) t b
        | _ => False
      | 39 => match st with
        | .inl x :: r => z_lkp (fun pc' => z_go cs j Q (z_wp cd j cs n) pc' ls r S) (q_w x) t b
        | _ => False
      | 41 => match st with
        | .inl w :: .inl y :: .inr (.inr q) :: .inl i :: .inr (.inr p) :: r => match S.2.2.1[p]?, S.2.2.1[q]? with
          | some (k0, n0), some (k1, n1) => if p < 1000 ∧ q < 1000 ∧ (r.map q_cat).sum ≤ 8 ∧ k0 < 3 ∧ k0 = k1 then (0 ≤ w ∧ 0 ≤ i ∧ 0 ≤ y ∧ i + w ≤ n0 ∧ y + w ≤ n1 ∧ (k0 = 2 → ∀ x, x < w.toNat → -128 ≤ S.1 p (i.toNat + x) ∧ S.1 p (i.toNat + x) < 128)) ∧ z_go cs j Q (z_wp cd j cs n) (pc + 1) ls r (q_cpy S.1 p i.toNat q y.toNat w.toNat, S.2) else False
          | _, _ => False
        | _ => False
      | _ => match q_step (op, a, b, z, t) pc ls st S with
        | some (pc', ls', st', S') => if op = 99 then False else z_go cs j Q (z_wp cd j cs n) pc' ls' st' S'
        | none => False
theorem z_go_T {cs : List Nat} {j : Nat} {Q : q_V → q_S → Prop} {f : Nat → List q_V → List q_V → q_S → (q_V → q_S → Prop) → Prop} (hf : ∀ pc ls st S, f pc ls st S Q → z_T j pc ls st S Q) {pc : Nat} {ls st : List q_V} {S : q_S} (h : z_go cs j Q f pc ls st S) : z_T j pc ls st S Q := by
  unfold z_go at h
  split at h
  · exact h
  · exact hf _ _ _ _ h
theorem z_swp_of {k : Nat → Prop} {x : Int} : ∀ {t : List Nat} {z : Int} {d : Nat}, z_swp k z x t d → k (q_sw z x t d)
  | [], _, _, h => h
  | t :: r, z, d, h => by
    unfold q_sw
    by_cases e : x = z
    · rw [if_pos e]; exact h.1 e
    · rw [if_neg e]; exact z_swp_of (h.2 e)
theorem z_lkp_of {k : Nat → Prop} {x : Int} : ∀ {t : List Nat} {d : Nat}, z_lkp k x t d → k (q_lk x t d)
  | [], _, h => h
  | [_], _, h => h
  | m :: t :: r, d, h => by
    unfold q_lk
    by_cases e : x = (m : Int)
    · rw [if_pos e]; exact h.1 e
    · rw [if_neg e]; exact z_lkp_of (h.2 e)
set_option maxHeartbeats 4000000 in
theorem z_wp_T {cd : List q_I} {j : Nat} {cs : List Nat} (hcd : (q_P j).1 = cd) : ∀ (n pc : Nat) (ls st : List q_V) (S : q_S) (Q : q_V → q_S → Prop), z_wp cd j cs n pc ls st S Q → z_T j pc ls st S Q
  | 0, _, _, _, _, _, h => h
  | n + 1, pc, ls, st, S, Q, h => by
    have ih := fun pc ls st S => z_wp_T (cs := cs) hcd n pc ls st S Q
    have go : ∀ {pc : Nat} {ls st : List q_V} {S : q_S}, z_go cs j Q (z_wp cd j cs n) pc ls st S → z_T j pc ls st S Q := fun h => z_go_T ih h
    subst hcd
    unfold z_wp at h
    cases hi : (q_P j).1[pc]? with
    | none => rw [hi] at h; exact h.elim
    | some i =>
      obtain ⟨op, a, b, z, t⟩ := i
      rw [hi] at h
      dsimp only at h
      split at h
      · split at h
        · exact h.elim
        · rename_i b' as rs hc
          split at h
          · exact h.elim
          · exact z_T_call hi rfl hc ‹_› (z_T.imp h (fun v S' g => go g))
      · split at h
        · exact z_T_ret hi rfl ‹_› h
        · exact h.elim
      · split at h
        · exact z_T_retv hi rfl h
        · exact h.elim
      · split at h
        · split at h
          · rename_i h9
            exact z_T_step hi (fun e => by cases e) (fun e => by cases e) (fun e => by cases e) (by simp only [q_step]; rw [if_neg (fun z => h.1 z.2)]) (go h.2)
          · rename_i h9
            exact z_T_step hi (fun e => by cases e) (fun e => by cases e) (fun e => by cases e) (by simp only [q_step]; rw [if_neg (fun z => h9 z.1)]) (go h)
        · exact h.elim
      · split at h
        · split at h
          · rename_i h9
            exact z_T_step hi (fun e => by cases e) (fun e => by cases e) (fun e => by cases e) (by simp only [q_step]; rw [if_neg (fun z => h.1 z.2)]) (go h.2)
          · rename_i h9
            exact z_T_step hi (fun e => by cases e) (fun e => by cases e) (fun e => by cases e) (by simp only [q_step]; rw [if_neg (fun z => h9 z.1)]) (go h)
        · exact h.elim
      · split at h
        · rename_i x r
          by_cases hc : q_cond a (q_w x) 0 = true
          · exact z_T_step hi (fun e => by cases e) (fun e => by cases e) (fun e => by cases e) (by simp only [q_step]; rw [if_pos hc]) (go (h.1 hc))
          · exact z_T_step hi (fun e => by cases e) (fun e => by cases e) (fun e => by cases e) (by simp only [q_step]; rw [if_neg hc]) (go (h.2 (by simpa using hc)))
        · exact h.elim
      · split at h
        · rename_i y x r
          by_cases hc : q_cond a (q_w x) (q_w y) = true
          · exact z_T_step hi (fun e => by cases e) (fun e => by cases e) (fun e => by cases e) (by simp only [q_step]; rw [if_pos hc]) (go (h.1 hc))
          · exact z_T_step hi (fun e => by cases e) (fun e => by cases e) (fun e => by cases e) (by simp only [q_step]; rw [if_neg hc]) (go (h.2 (by simpa using hc)))
        · exact h.elim
      · split at h
        · split at h
          · rename_i h1
            split at h
            · rename_i h0
              exact z_T_step hi (fun e => by cases e) (fun e => by cases e) (fun e => by cases e) (by simp only [q_step]; rw [if_pos ⟨h1.1, h1.2, fun e => by omega, fun e => by omega⟩]) (go h)
            · exact z_T_step hi (fun e => by cases e) (fun e => by cases e) (fun e => by cases e) (by simp only [q_step]; rw [if_pos ⟨h1.1, h1.2, h.1.1, h.1.2⟩]) (go h.2)
          · exact h.elim
        · exact h.elim
      · split at h
        · split at h
          · rename_i k m hs
            split at h
            · rename_i hk
              exact z_T_step hi (fun e => by cases e) (fun e => by cases e) (fun e => by cases e) (by simp only [q_step, hs]; rw [if_pos ⟨hk, h.1⟩]) (go h.2)
            · exact h.elim
          · exact h.elim
        · exact h.elim
      · split at h
        · split at h
          · rename_i k m hs
            split at h
            · rename_i hk
              exact z_T_step hi (fun e => by cases e) (fun e => by cases e) (fun e => by cases e) (by simp only [q_step, hs]; rw [if_pos ⟨hk.1, hk.2, h.1⟩]) (go h.2)
            · exact h.elim
          · exact h.elim
        · exact h.elim
      · split at h
        · split at h
          · rename_i k m hs
            split at h
            · rename_i hk
              exact z_T_step hi (fun e => by cases e) (fun e => by cases e) (fun e => by cases e) (by simp only [q_step, hs]; rw [if_pos ⟨hk.1, hk.2, h.1⟩]) (go h.2)
            · exact h.elim
          · exact h.elim
        · exact h.elim
      · split at h
        · split at h
          · rename_i k m hs
            split at h
            · rename_i hk
              exact z_T_step hi (fun e => by cases e) (fun e => by cases e) (fun e => by cases e) (by simp only [q_step, hs]; rw [if_pos ⟨hk.1, hk.2, h.1⟩]) (go h.2)
            · exact h.elim
          · exact h.elim
        · exact h.elim
      · split at h
        · split at h
          · rename_i k m hs
            split at h
            · rename_i hk
              exact z_T_step hi (fun e => by cases e) (fun e => by cases e) (fun e => by cases e) (by simp only [q_step, hs]; rw [if_pos ⟨hk.1, hk.2.1, hk.2.2, h.1.1.1, h.1.1.2, h.1.2⟩]) (go h.2)
            · exact h.elim
          · exact h.elim
        · exact h.elim
      · split at h
        · exact z_T_step hi (fun e => by cases e) (fun e => by cases e) (fun e => by cases e) (by simp only [q_step]) (go (z_swp_of h))
        · exact h.elim
      · split at h
        · exact z_T_step hi (fun e => by cases e) (fun e => by cases e) (fun e => by cases e) (by simp only [q_step]) (go (z_lkp_of h))
        · exact h.elim
      · split at h
        · split at h
          · rename_i k0 n0 k1 n1 hs1 hs2
            split at h
            · rename_i hk
              obtain ⟨⟨a1, a2, a3, a4, a5, a6⟩, h2⟩ := h
              exact z_T_step hi (fun e => by cases e) (fun e => by cases e) (fun e => by cases e) (by simp only [q_step, hs1, hs2]; rw [if_pos ⟨hk.1, hk.2.1, hk.2.2.1, hk.2.2.2.1, hk.2.2.2.2, a1, a2, a3, a4, a5, fun e => List.all_eq_true.mpr fun x hx => by simpa using a6 e x (List.mem_range.mp hx)⟩]) (go h2)
            · exact h.elim
          · exact h.elim
        · exact h.elim
      · split at h
        · rename_i pc' ls' st' S' hs
          split at h
          · exact h.elim
          · exact z_T_step hi (by assumption) (by assumption) (by assumption) hs (go h)
        · exact h.elim
/-- a call: along its code -/
theorem z_C_wp {j : Nat} {as : List q_V} {S : q_S} {Q : q_V → q_S → Prop} (cs : List Nat) (n : Nat) {cd : List q_I} {k : Nat} (hP : q_P j = (cd, k)) (h : z_wp cd j cs n 0 (q_pad (q_args as) k) [] S Q) : z_C j as S Q := by
  unfold z_C
  rw [hP]
  exact z_wp_T (by rw [hP]) n _ _ _ _ _ h
