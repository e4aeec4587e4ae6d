/-! CONTRACTS of the class: rows of rows, the matrix, its determinant -/
theorem z_ue {α : Type} {m : Nat → Nat → α} {a i b j : Nat} {v : α} (h1 : b = a) (h2 : j = i) : q_upd m a i v b j = v := by
  unfold q_upd
  rw [if_pos ⟨h1, h2⟩]
theorem z_un {α : Type} {m : Nat → Nat → α} {a i b j : Nat} {v : α} (h : ¬ (b = a ∧ j = i)) : q_upd m a i v b j = m b j := by
  unfold q_upd
  rw [if_neg h]
def x_fst (f : Nat → Bool) : Nat → Nat → Nat
  | 0, s => s
  | d + 1, s => if f s = true then s else x_fst f d (s + 1)
theorem x_fst_s {f : Nat → Bool} {d s : Nat} : x_fst f (d + 1) s = if f s = true then s else x_fst f d (s + 1) := rfl
theorem x_fst_rng (f : Nat → Bool) : ∀ d s, s ≤ x_fst f d s ∧ x_fst f d s ≤ s + d
  | 0, s => by simp [x_fst]
  | d + 1, s => by
    have := x_fst_rng f d (s + 1)
    unfold x_fst
    split <;> omega
theorem x_fst_t {f : Nat → Bool} : ∀ {d s : Nat}, x_fst f d s < s + d → f (x_fst f d s) = true
  | 0, s, h => by simp [x_fst] at h
  | d + 1, s, h => by
    unfold x_fst at h ⊢
    by_cases hf : f s = true
    · rw [if_pos hf]; exact hf
    · rw [if_neg hf] at h ⊢
      exact x_fst_t (by omega)
theorem x_fst_n {f : Nat → Bool} : ∀ {d s i : Nat}, s ≤ i → i < x_fst f d s → ¬ f i = true
  | 0, s, i, h1, h2 => by simp [x_fst] at h2; omega
  | d + 1, s, i, h1, h2 => by
    unfold x_fst at h2
    by_cases hf : f s = true
    · rw [if_pos hf] at h2; omega
    · rw [if_neg hf] at h2
      by_cases his : i = s
      · rw [his]; exact hf
      · exact x_fst_n (by omega) h2
theorem x_fst_congr {f h : Nat → Bool} : ∀ {d s : Nat}, (∀ i, s ≤ i → i < s + d → f i = h i) → x_fst f d s = x_fst h d s
  | 0, _, _ => rfl
  | d + 1, s, e => by
    unfold x_fst
    rw [e s (by omega) (by omega), x_fst_congr (fun i h1 h2 => e i (by omega) (by omega))]
abbrev x_A : Type := Nat → Nat → Int
def x_swp (A : x_A) (r c : Nat) : x_A := fun i j => if i = r then A c j else if i = c then A r j else A i j
theorem c_rnz_a {m : z_M} {g : z_g} {Q : q_V → q_S → Prop} {A : x_A} {c r n : Nat} {ci ri ni : Int} (ec : ci = c) (er : ri = r) (en : ni = n) (hc : c < 23) (hr : r ≤ n) (hn : n ≤ 23) (hA : ∀ i, r ≤ i → i < n → m (77 + i) c = A i c ∧ z_ok (A i c)) (k1 : ∀ i : Nat, x_fst (fun i => decide (¬ A i c = 0)) (n - r) r = i → i < n → Q (.inl (i : Int)) (z_st m g)) (k0 : x_fst (fun i => decide (¬ A i c = 0)) (n - r) r = n → Q (.inl (-1)) (z_st m g)) : z_C 88 [.inr (.inr 76), .inl ci, .inl ri, .inl ni] (z_st m g) Q := by
  have loop : ∀ (d i : Nat) (ii : Int), n - i = d → ii = (i : Int) → r ≤ i → i ≤ n → x_fst (fun i => decide (¬ A i c = 0)) (n - r) r = x_fst (fun i => decide (¬ A i c = 0)) d i → z_T 88 2 [.inr (.inr 76), .inl ci, .inl ri, .inl ni, .inl ii] [] (z_st m g) Q := by
    intro d
    induction d with
    | zero =>
      intro i ii hd he h1 h2 hf
      refine y_88a_2 ⟨(by unfold z_ok2; omega), fun _ => k0 ?_, (fun h => absurd h (by omega))⟩
      rw [hf]
      show i = n
      omega
    | succ d ih =>
      intro i ii hd he h1 h2 hf
      obtain ⟨e1, e2⟩ := hA i h1 (by omega)
      refine y_88a_2 ⟨(by unfold z_ok2; omega), (fun h => absurd h (by omega)), fun _ => ⟨z_rw76 (by omega) (by omega), z_sp76 (by omega), ⟨by omega, by omega⟩, ?_⟩⟩
      rw [show ii.toNat = i by omega, show ci.toNat = c by omega, e1]
      rw [x_fst_s] at hf
      refine ⟨e2, fun h0 => ?_, fun h0 => ?_⟩
      · rw [if_neg (by simp [h0])] at hf
        exact ih (i + 1) _ (by omega) (by omega) (by omega) (by omega) hf
      · rw [if_pos (by simp [h0])] at hf
        rw [he]
        exact k1 i hf (by omega)
  exact y_88a (loop (n - r) r _ rfl er (Nat.le_refl _) hr rfl)
theorem c_swap_a {m : z_M} {g : z_g} {Q : q_V → q_S → Prop} {r c w : Nat} {ri ci wi : Int} (er : ri = r) (ec : ci = c) (ew : wi = w) (hr : r < 23) (hc : c < 23) (hw : w ≤ 23) (kk : ∀ m', (∀ a j, (a < 77 ∨ 100 ≤ a) → m' a j = m a j) → (∀ i j, i < 23 → m' (77 + i) j = if j < w then x_swp (fun i j => m (77 + i) j) r c i j else m (77 + i) j) → Q q_dead (z_st m' g)) : z_C 89 [.inr (.inr 76), .inl ri, .inl ci, .inl wi] (z_st m g) Q := by
  have loop : ∀ (d k : Nat) (ki : Int) (m' : z_M) (v : q_V), w - k = d → ki = (k : Int) → k ≤ w → (∀ a j, (a < 77 ∨ 100 ≤ a) → m' a j = m a j) → (∀ i j, i < 23 → m' (77 + i) j = if j < k then x_swp (fun i j => m (77 + i) j) r c i j else m (77 + i) j) → z_T 89 2 [.inr (.inr 76), .inl ri, .inl ci, .inl wi, .inl ki, v] [] (z_st m' g) Q := by
    intro d
    induction d with
    | zero =>
      intro k ki m' v hd he hk f1 f2
      obtain rfl : k = w := by omega
      exact y_89a_2 ⟨(by unfold z_ok2; omega), fun _ => kk m' f1 f2, (fun h => absurd h (by omega))⟩
    | succ d ih =>
      intro k ki m' v hd he hk f1 f2
      have e1 := f2 r k hr
      have e2 := f2 c k hc
      rw [if_neg (by omega)] at e1 e2
      refine y_89a_2 ⟨(by unfold z_ok2; omega), (fun h => absurd h (by omega)), fun _ => ⟨z_rw76 (by omega) (by omega), z_sp76 (by omega), ⟨by omega, by omega⟩, z_rw76 (by omega) (by omega), z_rw76 (by omega) (by omega), z_sp76 (by omega), ⟨by omega, by omega⟩, z_sp76 (by omega), ⟨by omega, by omega⟩, z_rw76 (by omega) (by omega), z_sp76 (by omega), ⟨by omega, by omega⟩, ?_⟩⟩
      rw [show ri.toNat = r by omega, show ci.toNat = c by omega, show ki.toNat = k by omega, e1, e2]
      refine ih (k + 1) _ _ _ (by omega) (by omega) (by omega) ?_ ?_
      · intro a j ha
        unfold q_upd
        rw [if_neg (by omega), if_neg (by omega)]
        exact f1 a j ha
      · intro i j hi
        by_cases hj : j = k
        · subst hj
          rw [if_pos (by omega)]
          unfold x_swp
          by_cases hic : i = c
          · rw [z_ue (by omega) rfl]
            by_cases hcr : i = r
            · rw [if_pos hcr]
              show m (77 + r) j = m (77 + c) j
              rw [← hcr, hic]
            · rw [if_neg hcr, if_pos hic]
          · rw [z_un (by omega)]
            by_cases hir : i = r
            · rw [z_ue (by omega) rfl, if_pos hir]
            · rw [z_un (by omega), if_neg hir, if_neg hic, f2 i j hi, if_neg (by omega)]
        · rw [z_un (by omega), z_un (by omega), f2 i j hi]
          by_cases hjk : j < k
          · rw [if_pos hjk, if_pos (by omega)]
          · rw [if_neg hjk, if_neg (by omega)]
  refine y_89a (loop w 0 0 m _ rfl rfl (by omega) (fun _ _ _ => rfl) (fun i j hi => ?_))
  rw [if_neg (by omega)]
theorem c_rnz_b {m : z_M} {g : z_g} {Q : q_V → q_S → Prop} {A : x_A} {c r n : Nat} {ci ri ni : Int} (ec : ci = c) (er : ri = r) (en : ni = n) (hc : c < 5) (hr : r ≤ n) (hn : n ≤ 6) (hA : ∀ i, r ≤ i → i < n → m (102 + i) c = A i c ∧ z_ok (A i c)) (k1 : ∀ i : Nat, x_fst (fun i => decide (¬ A i c = 0)) (n - r) r = i → i < n → Q (.inl (i : Int)) (z_st m g)) (k0 : x_fst (fun i => decide (¬ A i c = 0)) (n - r) r = n → Q (.inl (-1)) (z_st m g)) : z_C 88 [.inr (.inr 101), .inl ci, .inl ri, .inl ni] (z_st m g) Q := by
  have loop : ∀ (d i : Nat) (ii : Int), n - i = d → ii = (i : Int) → r ≤ i → i ≤ n → x_fst (fun i => decide (¬ A i c = 0)) (n - r) r = x_fst (fun i => decide (¬ A i c = 0)) d i → z_T 88 2 [.inr (.inr 101), .inl ci, .inl ri, .inl ni, .inl ii] [] (z_st m g) Q := by
    intro d
    induction d with
    | zero =>
      intro i ii hd he h1 h2 hf
      refine y_88b_2 ⟨(by unfold z_ok2; omega), fun _ => k0 ?_, (fun h => absurd h (by omega))⟩
      rw [hf]
      show i = n
      omega
    | succ d ih =>
      intro i ii hd he h1 h2 hf
      obtain ⟨e1, e2⟩ := hA i h1 (by omega)
      refine y_88b_2 ⟨(by unfold z_ok2; omega), (fun h => absurd h (by omega)), fun _ => ⟨z_rw101 (by omega) (by omega), z_sp101 (by omega), ⟨by omega, by omega⟩, ?_⟩⟩
      rw [show ii.toNat = i by omega, show ci.toNat = c by omega, e1]
      rw [x_fst_s] at hf
      refine ⟨e2, fun h0 => ?_, fun h0 => ?_⟩
      · rw [if_neg (by simp [h0])] at hf
        exact ih (i + 1) _ (by omega) (by omega) (by omega) (by omega) hf
      · rw [if_pos (by simp [h0])] at hf
        rw [he]
        exact k1 i hf (by omega)
  exact y_88b (loop (n - r) r _ rfl er (Nat.le_refl _) hr rfl)
theorem c_swap_b {m : z_M} {g : z_g} {Q : q_V → q_S → Prop} {r c w : Nat} {ri ci wi : Int} (er : ri = r) (ec : ci = c) (ew : wi = w) (hr : r < 6) (hc : c < 6) (hw : w ≤ 5) (kk : ∀ m', (∀ a j, (a < 102 ∨ 108 ≤ a) → m' a j = m a j) → (∀ i j, i < 6 → m' (102 + i) j = if j < w then x_swp (fun i j => m (102 + i) j) r c i j else m (102 + i) j) → Q q_dead (z_st m' g)) : z_C 89 [.inr (.inr 101), .inl ri, .inl ci, .inl wi] (z_st m g) Q := by
  have loop : ∀ (d k : Nat) (ki : Int) (m' : z_M) (v : q_V), w - k = d → ki = (k : Int) → k ≤ w → (∀ a j, (a < 102 ∨ 108 ≤ a) → m' a j = m a j) → (∀ i j, i < 6 → m' (102 + i) j = if j < k then x_swp (fun i j => m (102 + i) j) r c i j else m (102 + i) j) → z_T 89 2 [.inr (.inr 101), .inl ri, .inl ci, .inl wi, .inl ki, v] [] (z_st m' g) Q := by
    intro d
    induction d with
    | zero =>
      intro k ki m' v hd he hk f1 f2
      obtain rfl : k = w := by omega
      exact y_89b_2 ⟨(by unfold z_ok2; omega), fun _ => kk m' f1 f2, (fun h => absurd h (by omega))⟩
    | succ d ih =>
      intro k ki m' v hd he hk f1 f2
      have e1 := f2 r k hr
      have e2 := f2 c k hc
      rw [if_neg (by omega)] at e1 e2
      refine y_89b_2 ⟨(by unfold z_ok2; omega), (fun h => absurd h (by omega)), fun _ => ⟨z_rw101 (by omega) (by omega), z_sp101 (by omega), ⟨by omega, by omega⟩, z_rw101 (by omega) (by omega), z_rw101 (by omega) (by omega), z_sp101 (by omega), ⟨by omega, by omega⟩, z_sp101 (by omega), ⟨by omega, by omega⟩, z_rw101 (by omega) (by omega), z_sp101 (by omega), ⟨by omega, by omega⟩, ?_⟩⟩
      rw [show ri.toNat = r by omega, show ci.toNat = c by omega, show ki.toNat = k by omega, e1, e2]
      refine ih (k + 1) _ _ _ (by omega) (by omega) (by omega) ?_ ?_
      · intro a j ha
        unfold q_upd
        rw [if_neg (by omega), if_neg (by omega)]
        exact f1 a j ha
      · intro i j hi
        by_cases hj : j = k
        · subst hj
          rw [if_pos (by omega)]
          unfold x_swp
          by_cases hic : i = c
          · rw [z_ue (by omega) rfl]
            by_cases hcr : i = r
            · rw [if_pos hcr]
              show m (102 + r) j = m (102 + c) j
              rw [← hcr, hic]
            · rw [if_neg hcr, if_pos hic]
          · rw [z_un (by omega)]
            by_cases hir : i = r
            · rw [z_ue (by omega) rfl, if_pos hir]
            · rw [z_un (by omega), if_neg hir, if_neg hic, f2 i j hi, if_neg (by omega)]
        · rw [z_un (by omega), z_un (by omega), f2 i j hi]
          by_cases hjk : j < k
          · rw [if_pos hjk, if_pos (by omega)]
          · rw [if_neg hjk, if_neg (by omega)]
  refine y_89b (loop w 0 0 m _ rfl rfl (by omega) (fun _ _ _ => rfl) (fun i j hi => ?_))
  rw [if_neg (by omega)]
/-- the matrix of a row L and its slope D, sp the span -/
def x_cell (L D : Nat → Int) (sp : Nat) : x_A := fun i j => if i + 1 < sp then (if i ≤ j ∧ j ≤ i + sp then L (sp + i - j) else 0) else if i + 1 ≤ j + sp ∧ j ≤ i then D (i - j) else 0
theorem c_cellOf {m : z_M} {g : z_g} {Q : q_V → q_S → Prop} {L D : Nat → Int} {sp i j : Nat} {ii ji : Int} (ei : ii = i) (ej : ji = j) (hL : t_R m 71 L) (hD : t_R m 72 D) (hs : m 70 1 = (sp : Int)) (h1 : 1 ≤ sp) (h2 : sp ≤ 12) (hi : i < 2 * sp - 1) (hj : j < 2 * sp - 1) (kk : Q (.inl (x_cell L D sp i j)) (z_st m g)) : z_C 80 [.inr (.inr 75), .inr (.inr 70), .inl ii, .inl ji] (z_st m g) Q := by
  unfold x_cell at kk
  refine y_80 ⟨(by unfold z_ok2; omega), fun hh => ?_, fun hh => ?_⟩
  · rw [if_neg (by omega)] at kk
    refine ⟨(by unfold z_ok2; omega), fun h3 => y_82 ?_, fun h3 => y_80_41 ?_⟩
    · refine ⟨(by unfold z_ok; omega), fun h4 => y_80_41 ?_, fun h4 => ⟨(by unfold z_ok2; omega), fun h5 => ⟨⟨by omega, by omega⟩, y_80_41 ?_⟩, (fun h => absurd h (by omega))⟩⟩
      · rw [if_neg (by omega)] at kk; exact kk
      · rw [if_pos (by omega), ← hD (i - j) (by omega)] at kk
        rw [show (m 70 1 - 1 - (ji - (ii - (m 70 1 - 1)))).toNat = i - j by omega]
        exact kk
    · rw [if_neg (by omega)] at kk; exact kk
  · rw [if_pos (by omega)] at kk
    refine ⟨(by unfold z_ok2; omega), fun h3 => y_81 ?_, fun h3 => y_80_20 ?_⟩
    · refine ⟨(by unfold z_ok; omega), fun h4 => y_80_20 ?_, fun h4 => ⟨(by unfold z_ok2; omega), fun h5 => ⟨⟨by omega, by omega⟩, y_80_20 ?_⟩, (fun h => absurd h (by omega))⟩⟩
      · rw [if_neg (by omega)] at kk; exact kk
      · rw [if_pos (by omega), ← hL (sp + i - j) (by omega)] at kk
        rw [show (m 70 1 - (ji - ii)).toNat = sp + i - j by omega]
        exact kk
    · rw [if_neg (by omega)] at kk; exact kk
def t_M (m : z_M) (n : Nat) (A : x_A) : Prop := ∀ i j, i < n → j < n → m (77 + i) j = A i j
def x_MR (p : Int) (n : Nat) (A : x_A) : Prop := ∀ i j, i < n → j < n → 0 ≤ A i j ∧ A i j < p
theorem x_cell_MR {p : Int} {L D : Nat → Int} {sp n : Nat} (hp : z_pr p) (hL : x_R p L) (hD : x_R p D) (h2 : sp ≤ 12) : x_MR p (2 * sp - 1) (x_cell L D sp) := by
  intro i j hi hj
  have hp5 := z_pr_le hp
  unfold x_cell
  split
  · split
    · exact hL _ (by omega)
    · omega
  · split
    · exact hD _ (by omega)
    · omega
theorem c_mbecome {m : z_M} {g : z_g} {Q : q_V → q_S → Prop} {L D : Nat → Int} {sp : Nat} (hL : t_R m 71 L) (hD : t_R m 72 D) (hs : m 70 1 = (sp : Int)) (h1 : 1 ≤ sp) (h2 : sp ≤ 12) (kk : ∀ m', (∀ a j, (a < 75 ∨ 99 < a) → m' a j = m a j) → m' 75 2 = ((2 * sp - 1 : Nat) : Int) → t_M m' (2 * sp - 1) (x_cell L D sp) → Q q_dead (z_st m' g)) : z_C 85 [.inr (.inr 75), .inr (.inr 70)] (z_st m g) Q := by
  have out : ∀ (d i : Nat) (ii : Int) (m' : z_M) (v : q_V), 2 * sp - 1 - i = d → ii = (i : Int) → i ≤ 2 * sp - 1 → (∀ a j, (a < 75 ∨ 99 < a) → m' a j = m a j) → m' 75 2 = ((2 * sp - 1 : Nat) : Int) → (∀ a b, a < i → b < 2 * sp - 1 → m' (77 + a) b = x_cell L D sp a b) → z_T 85 14 [.inr (.inr 75), .inr (.inr 70), .inl ii, v] [] (z_st m' g) Q := by
    intro d
    induction d with
    | zero =>
      intro i ii m' v hd he hi f1 f2 f3
      exact y_85_14 ⟨(by unfold z_ok2; omega), fun _ => kk m' f1 f2 fun a b ha hb => f3 a b (by omega) hb, (fun h => absurd h (by omega))⟩
    | succ d ih =>
      intro i ii m' v hd he hi f1 f2 f3
      have inn : ∀ (d j : Nat) (ji : Int) (m' : z_M), 2 * sp - 1 - j = d → ji = (j : Int) → j ≤ 2 * sp - 1 → (∀ a j, (a < 75 ∨ 99 < a) → m' a j = m a j) → m' 75 2 = ((2 * sp - 1 : Nat) : Int) → (∀ a b, a < i → b < 2 * sp - 1 → m' (77 + a) b = x_cell L D sp a b) → (∀ b, b < j → m' (77 + i) b = x_cell L D sp i b) → z_T 85 20 [.inr (.inr 75), .inr (.inr 70), .inl ii, .inl ji] [] (z_st m' g) Q := by
        intro d2
        induction d2 with
        | zero =>
          intro j ji m' hd2 he2 hj g1 g2 g3 g4
          refine y_85_20 ⟨(by unfold z_ok2; omega), fun _ => ?_, (fun h => absurd h (by omega))⟩
          refine ih (i + 1) _ m' _ (by omega) (by omega) (by omega) g1 g2 fun a b ha hb => ?_
          by_cases hai : a = i
          · rw [hai]; exact g4 b (by omega)
          · exact g3 a b (by omega) hb
        | succ d2 ih2 =>
          intro j ji m' hd2 he2 hj g1 g2 g3 g4
          refine y_85_20 ⟨(by unfold z_ok2; omega), (fun h => absurd h (by omega)), fun _ => ⟨z_rw76 (by omega) (by omega), ?_⟩⟩
          refine c_cellOf (L := L) (D := D) (sp := sp) (i := i) (j := j) he he2 (fun k hk => by rw [g1 71 k (by omega)]; exact hL k hk) (fun k hk => by rw [g1 72 k (by omega)]; exact hD k hk) (by rw [g1 70 1 (by omega)]; exact hs) h1 h2 (by omega) (by omega) (y_85_34 ⟨z_sp76 (by omega), ⟨by omega, by omega⟩, ?_⟩)
          rw [show ii.toNat = i by omega, show ji.toNat = j by omega]
          refine ih2 (j + 1) _ _ (by omega) (by omega) (by omega) ?_ ?_ ?_ ?_
          · intro a b ha
            unfold q_upd
            rw [if_neg (by omega)]
            exact g1 a b ha
          · unfold q_upd
            rw [if_neg (by omega)]
            exact g2
          · intro a b ha hb
            unfold q_upd
            rw [if_neg (by omega)]
            exact g3 a b ha hb
          · intro b hb
            unfold q_upd
            by_cases hbj : b = j
            · rw [if_pos ⟨rfl, hbj⟩, hbj]
            · rw [if_neg (by omega)]
              exact g4 b (by omega)
      refine y_85_14 ⟨(by unfold z_ok2; omega), (fun h => absurd h (by omega)), fun _ => ?_⟩
      exact inn _ 0 0 m' rfl rfl (by omega) f1 f2 f3 (fun b hb => by omega)
  refine y_85 (c_min (by unfold z_ok2; omega) (y_85_11 ?_))
  refine out _ 0 0 _ _ rfl rfl (by omega) ?_ ?_ (fun a b ha => by omega)
  · intro a j ha
    unfold q_upd
    rw [if_neg (by omega)]
  · show (if 2 * m 70 1 - 1 < 23 then 2 * m 70 1 - 1 else 23) = ((2 * sp - 1 : Nat) : Int)
    split <;> omega
def x_clr (p : Int) (A : x_A) (c : Nat) : x_A := fun i j => if c < i ∧ c ≤ j then (A i j - (A i c * z_inv p (A c c) % p) * A c j) % p else A i j
def x_det (p : Int) (n : Nat) : Nat → Nat → x_A → Int → Int
  | 0, _, _, is => is
  | d + 1, c, A, is => if x_fst (fun i => decide (¬ A i c = 0)) (n - c) c = n then 0 else if x_fst (fun i => decide (¬ A i c = 0)) (n - c) c = c then x_det p n d (c + 1) (x_clr p A c) (is * A c c % p) else x_det p n d (c + 1) (x_clr p (x_swp A (x_fst (fun i => decide (¬ A i c = 0)) (n - c) c) c) c) ((-is) % p * x_swp A (x_fst (fun i => decide (¬ A i c = 0)) (n - c) c) c c c % p)
theorem x_clr_MR {p : Int} {n c : Nat} {A : x_A} (hp : z_pr p) (h : x_MR p n A) : x_MR p n (x_clr p A c) := by
  intro i j hi hj
  have hp5 := z_pr_le hp
  unfold x_clr
  split
  · exact z_m0 (by omega)
  · exact h i j hi hj
theorem x_swp_MR {p : Int} {n r c : Nat} {A : x_A} (hr : r < n) (hc : c < n) (h : x_MR p n A) : x_MR p n (x_swp A r c) := by
  intro i j hi hj
  unfold x_swp
  split
  · exact h c j hc hj
  · split
    · exact h r j hr hj
    · exact h i j hi hj
theorem c_clearBelow {m : z_M} {g : z_g} {Q : q_V → q_S → Prop} {p : Int} {A : x_A} {c n : Nat} {ci : Int} (ec : ci = c) (hF : t_F m p) (hn : n ≤ 23) (hs : m 75 2 = (n : Int)) (hc : c < n) (hA : t_M m n A) (hR : x_MR p n A) (kk : ∀ m', (∀ a j, (a < 77 ∨ 99 < a) → m' a j = m a j) → t_M m' n (x_clr p A c) → Q q_dead (z_st m' g)) : z_C 90 [.inr (.inr 75), .inl ci] (z_st m g) Q := by
  have hp := hF.1
  have hp5 := z_pr_le hp
  have ecc := hR c c hc hc
  have hFm : ∀ m' : z_M, (∀ a j, (a < 77 ∨ 99 < a) → m' a j = m a j) → m' 29 0 = p := fun m' f => by rw [f 29 0 (by omega)]; exact hF.2.1
  have hiv := z_inv_rng (x := A c c) hp
  have out : ∀ (d i : Nat) (ii : Int) (m' : z_M) (v4 v5 : q_V), n - i = d → ii = (i : Int) → c < i → i ≤ n → (∀ a j, (a < 77 ∨ 99 < a) → m' a j = m a j) → (∀ a b, a < n → b < n → m' (77 + a) b = if a < i then x_clr p A c a b else A a b) → z_T 90 14 [.inr (.inr 75), .inl ci, .inl (z_inv p (A c c)), .inl ii, v4, v5] [] (z_st m' g) Q := by
    intro d
    induction d with
    | zero =>
      intro i ii m' v4 v5 hd he hci hi f1 f2
      have e2 : m' 75 2 = (n : Int) := by rw [f1 75 2 (by omega)]; exact hs
      refine y_90_14 ⟨(by unfold z_ok2; omega), fun _ => kk m' f1 fun a b ha hb => ?_, (fun h => absurd h (by omega))⟩
      rw [f2 a b ha hb, if_pos (by omega)]
    | succ d ih =>
      intro i ii m' v4 v5 hd he hci hi f1 f2
      have e2 : m' 75 2 = (n : Int) := by rw [f1 75 2 (by omega)]; exact hs
      have e3 : m' (77 + i) c = A i c := by rw [f2 i c (by omega) hc, if_neg (by omega)]
      have b1 := hR i c (by omega) hc
      have b2 : 0 ≤ A i c * z_inv p (A c c) ∧ A i c * z_inv p (A c c) ≤ 31 * 31 := ⟨Int.mul_nonneg (by omega) (by omega), Int.mul_le_mul (by omega) (by omega) (by omega) (by omega)⟩
      have b3 := z_m0 (p := p) (a := A i c * z_inv p (A c c)) (by omega)
      have fin : ∀ (m2 : z_M) (v4 v5 : q_V), (∀ a j, (a < 77 ∨ 99 < a) → m2 a j = m a j) → (∀ a b, a < n → b < n → m2 (77 + a) b = if a < i + 1 then x_clr p A c a b else A a b) → z_T 90 14 [.inr (.inr 75), .inl ci, .inl (z_inv p (A c c)), .inl (ii + (1 : Int)), v4, v5] [] (z_st m2 g) Q := fun m2 v4 v5 g1 g2 => ih (i + 1) _ m2 v4 v5 (by omega) (by omega) (by omega) (by omega) g1 g2
      have inn : ∀ (d j : Nat) (ji : Int) (m' : z_M), n - j = d → ji = (j : Int) → c ≤ j → j ≤ n → (∀ a j, (a < 77 ∨ 99 < a) → m' a j = m a j) → (∀ a b, a < n → b < n → m' (77 + a) b = if a < i ∨ (a = i ∧ b < j) then x_clr p A c a b else A a b) → z_T 90 31 [.inr (.inr 75), .inl ci, .inl (z_inv p (A c c)), .inl ii, .inl (A i c * z_inv p (A c c) % p), .inl ji] [] (z_st m' g) Q := by
        intro d2
        induction d2 with
        | zero =>
          intro j ji m' hd2 he2 hcj hj g1 g2
          have e2 : m' 75 2 = (n : Int) := by rw [g1 75 2 (by omega)]; exact hs
          have gg : ∀ a b, a < n → b < n → m' (77 + a) b = if a < i + 1 then x_clr p A c a b else A a b := fun a b ha hb => by
            rw [g2 a b ha hb]
            by_cases h : a < i + 1
            · rw [if_pos h, if_pos (by omega)]
            · rw [if_neg h, if_neg (by omega)]
          refine y_90_31 ⟨(by unfold z_ok; omega), fun _ => fin m' _ _ g1 gg, fun _ => ⟨(by unfold z_ok2; omega), fun _ => fin m' _ _ g1 gg, (fun h => absurd h (by omega))⟩⟩
        | succ d2 ih2 =>
          intro j ji m' hd2 he2 hcj hj g1 g2
          have e2 : m' 75 2 = (n : Int) := by rw [g1 75 2 (by omega)]; exact hs
          have e4 : m' (77 + i) j = A i j := by rw [g2 i j (by omega) (by omega), if_neg (by omega)]
          have e5 : m' (77 + c) j = A c j := by
            rw [g2 c j (by omega) (by omega), if_pos (by omega)]
            unfold x_clr
            rw [if_neg (by omega)]
          have b4 := hR i j (by omega) (by omega)
          have b5 := hR c j (by omega) (by omega)
          have b6 : 0 ≤ (A i c * z_inv p (A c c) % p) * A c j ∧ (A i c * z_inv p (A c c) % p) * A c j ≤ 31 * 31 := ⟨Int.mul_nonneg (by omega) (by omega), Int.mul_le_mul (by omega) (by omega) (by omega) (by omega)⟩
          refine y_90_31 ⟨(by unfold z_ok; omega), fun hz => ?_, fun _ => ⟨(by unfold z_ok2; omega), (fun h => absurd h (by omega)), fun _ => ⟨z_rw76 (by omega) (by omega), z_rw76 (by omega) (by omega), z_sp76 (by omega), ⟨by omega, by omega⟩, z_rw76 (by omega) (by omega), z_sp76 (by omega), ⟨by omega, by omega⟩, ?_⟩⟩⟩
          · -- nothing is taken off
            refine fin m' _ _ g1 fun a b ha hb => ?_
            rw [g2 a b ha hb]
            by_cases h : a < i + 1
            · rw [if_pos h]
              by_cases h2 : a < i ∨ (a = i ∧ b < j)
              · rw [if_pos h2]
              · rw [if_neg h2]
                have hai : a = i := by omega
                unfold x_clr
                rw [hai]
                by_cases hcb : c < i ∧ c ≤ b
                · have b7 := hR i b (by omega) hb
                  rw [if_pos hcb, hz, Int.zero_mul, Int.sub_zero, z_mi b7.1 b7.2]
                · rw [if_neg hcb]
            · rw [if_neg h, if_neg (by omega)]
          · rw [show ii.toNat = i by omega, show ci.toNat = c by omega, show ji.toNat = j by omega, e4, e5]
            refine c_mod' hp (hFm m' g1) (by unfold z_ok; omega) (y_90_60 ⟨?_, ⟨by omega, by omega⟩, ?_⟩)
            · have := z_sp76 (t := g.2.2.1) (i := ii) (by omega)
              rw [show ii.toNat = i by omega] at this
              exact this
            · rw [show ji.toNat = j by omega]
              refine ih2 (j + 1) _ _ (by omega) (by omega) (by omega) (by omega) ?_ ?_
              · intro a b ha
                unfold q_upd
                rw [if_neg (by omega)]
                exact g1 a b ha
              · intro a b ha hb
                unfold q_upd
                by_cases hh : a = i ∧ b = j
                · rw [if_pos (by omega), if_pos (by omega), hh.1, hh.2]
                  unfold x_clr
                  rw [if_pos (by omega)]
                · rw [if_neg (by omega), g2 a b ha hb]
                  by_cases h2 : a < i ∨ (a = i ∧ b < j)
                  · rw [if_pos h2, if_pos (by omega)]
                  · rw [if_neg h2, if_neg (by omega)]
      refine y_90_14 ⟨(by unfold z_ok2; omega), (fun h => absurd h (by omega)), fun _ => ⟨z_rw76 (by omega) (by omega), z_sp76 (by omega), ⟨by omega, by omega⟩, ?_⟩⟩
      rw [show ii.toNat = i by omega, show ci.toNat = c by omega, e3]
      refine c_product hp (hFm m' f1) (by unfold z_ok; omega) (y_90_28 ?_)
      refine inn (n - c) c _ m' rfl ec (Nat.le_refl _) (by omega) f1 fun a b ha hb => ?_
      rw [f2 a b ha hb]
      by_cases h : a < i
      · rw [if_pos h, if_pos (by omega)]
      · rw [if_neg h]
        by_cases h2 : a < i ∨ (a = i ∧ b < c)
        · rw [if_pos h2]
          unfold x_clr
          rw [if_neg (by omega)]
        · rw [if_neg h2]
  refine y_90 ⟨z_rw76 (by omega) (by omega), z_sp76 (by omega), ⟨by omega, by omega⟩, ?_⟩
  rw [show ci.toNat = c by omega, hA c c hc hc]
  refine c_over hF ecc.1 ecc.2 (y_90_9 ?_)
  refine out (n - (c + 1)) (c + 1) _ m _ _ rfl (by omega) (by omega) (by omega) (fun _ _ _ => rfl) fun a b ha hb => ?_
  rw [hA a b ha hb]
  split
  · unfold x_clr
    rw [if_neg (by omega)]
  · rfl
theorem c_determinant {m : z_M} {g : z_g} {Q : q_V → q_S → Prop} {p : Int} {A : x_A} {n : Nat} (hF : t_F m p) (hn : n ≤ 23) (hs : m 75 2 = (n : Int)) (hA : t_M m n A) (hR : x_MR p n A) (kk : ∀ m', (∀ a j, (a < 77 ∨ 99 < a) → m' a j = m a j) → Q (.inl (x_det p n n 0 A 1)) (z_st m' g)) : z_C 87 [.inr (.inr 75)] (z_st m g) Q := by
  have hp := hF.1
  have hp5 := z_pr_le hp
  have hFm : ∀ m' : z_M, (∀ a j, (a < 77 ∨ 99 < a) → m' a j = m a j) → t_F m' p := fun m' f => ⟨hp, by rw [f 29 0 (by omega)]; exact hF.2.1, fun x e hx he => by rw [f (31 + x) e (by omega)]; exact hF.2.2.1 x e hx he, fun x hx => by rw [f 62 x (by omega)]; exact hF.2.2.2 x hx⟩
  have loop : ∀ (d c : Nat) (ci is : Int) (A : x_A) (m' : z_M) (v : q_V), n - c = d → ci = (c : Int) → c ≤ n → 0 ≤ is → is < p → (∀ a j, (a < 77 ∨ 99 < a) → m' a j = m a j) → t_M m' n A → x_MR p n A → (∀ m', (∀ a j, (a < 77 ∨ 99 < a) → m' a j = m a j) → Q (.inl (x_det p n d c A is)) (z_st m' g)) → z_T 87 4 [.inr (.inr 75), .inl is, .inl ci, v] [] (z_st m' g) Q := by
    intro d
    induction d with
    | zero =>
      intro c ci is A m' v hd he hc i1 i2 f1 f2 f3 kk
      have e2 : m' 75 2 = (n : Int) := by rw [f1 75 2 (by omega)]; exact hs
      exact y_87_4 ⟨(by unfold z_ok2; omega), fun _ => kk m' f1, (fun h => absurd h (by omega))⟩
    | succ d ih =>
      intro c ci is A m' v hd he hc i1 i2 f1 f2 f3 kk
      have e2 : m' 75 2 = (n : Int) := by rw [f1 75 2 (by omega)]; exact hs
      unfold x_det at kk
      refine y_87_4 ⟨(by unfold z_ok2; omega), (fun h => absurd h (by omega)), fun _ => ?_⟩
      refine c_rnz_a (A := A) (c := c) (r := c) (n := n) he he e2 (by omega) hc hn (fun i h1 h2 => ⟨f2 i c h2 (by omega), by have := f3 i c h2 (by omega); exact (by unfold z_ok; omega)⟩) (fun r hr hrn => ?_) (fun hr => ?_)
      · rw [hr] at kk
        rw [if_neg (by omega)] at kk
        have hrc := (x_fst_rng (fun i => decide (¬ A i c = 0)) (n - c) c).1
        rw [hr] at hrc
        have tail : ∀ (m2 : z_M) (A2 : x_A) (is2 r2 : Int), 0 ≤ is2 → is2 < p → (∀ a j, (a < 77 ∨ 99 < a) → m2 a j = m a j) → t_M m2 n A2 → x_MR p n A2 → (∀ m', (∀ a j, (a < 77 ∨ 99 < a) → m' a j = m a j) → Q (.inl (x_det p n d (c + 1) (x_clr p A2 c) (is2 * A2 c c % p))) (z_st m' g)) → z_C 68 [.inr (.inr 29), .inl is2, .inl (m2 (77 + ci.toNat) ci.toNat)] (z_st m2 g) (fun v S => z_T 87 46 [.inr (.inr 75), .inl is2, .inl ci, .inl r2] (q_push v []) S Q) := by
          intro m2 A2 is2 r2 j1 j2 g1 g2 g3 kk
          have e3 : m2 75 2 = (n : Int) := by rw [g1 75 2 (by omega)]; exact hs
          have b1 := g3 c c (by omega) (by omega)
          have b2 : 0 ≤ is2 * A2 c c ∧ is2 * A2 c c ≤ 31 * 31 := ⟨Int.mul_nonneg (by omega) (by omega), Int.mul_le_mul (by omega) (by omega) (by omega) (by omega)⟩
          have b3 := z_m0 (p := p) (a := is2 * A2 c c) (by omega)
          rw [show ci.toNat = c by omega, g2 c c (by omega) (by omega)]
          refine c_product hp (hFm m2 g1).2.1 (by unfold z_ok; omega) (y_87_46 ?_)
          refine c_clearBelow (A := A2) (n := n) (c := c) he (hFm m2 g1) hn e3 (by omega) g2 g3 fun m3 h1 h2 => y_87_50 ?_
          exact ih (c + 1) _ _ _ m3 _ (by omega) (by omega) (by omega) b3.1 b3.2 (fun a j ha => by rw [h1 a j ha, g1 a j ha]) h2 (x_clr_MR hp g3) kk
        refine y_87_15 ⟨(by unfold z_ok; omega), fun _ => ⟨(by unfold z_ok2; omega), fun hrc2 => ?_, fun hrc2 => ?_⟩, (fun h => absurd h (by omega))⟩
        · rw [if_pos (by omega)] at kk
          exact ⟨z_rw76 (by omega) (by omega), z_sp76 (by omega), ⟨by omega, by omega⟩, tail m' A is _ i1 i2 f1 f2 f3 kk⟩
        · rw [if_neg (by omega)] at kk
          refine c_swap_a (r := r) (c := c) (w := n) rfl he e2 (by omega) (by omega) (by omega) fun m2 g1 g2 => y_87_30 ?_
          have g1' : ∀ a j, (a < 77 ∨ 99 < a) → m2 a j = m a j := fun a j ha => by rw [g1 a j (by omega), f1 a j ha]
          have g3 : t_M m2 n (x_swp A r c) := fun i j hi hj => by
            rw [g2 i j (by omega), if_pos hj]
            unfold x_swp
            show (if i = r then m' (77 + c) j else if i = c then m' (77 + r) j else m' (77 + i) j) = _
            rw [f2 c j (by omega) hj, f2 r j (by omega) hj, f2 i j hi hj]
          have b3 := z_m0 (p := p) (a := -is) (by omega)
          refine c_mod' hp (hFm m2 g1').2.1 (by unfold z_ok; omega) (y_87_35 ⟨z_rw76 (by omega) (by omega), z_sp76 (by omega), ⟨by omega, by omega⟩, ?_⟩)
          exact tail m2 (x_swp A r c) _ _ b3.1 b3.2 g1' g3 (x_swp_MR (by omega) (by omega) f3) kk
      · rw [if_pos hr] at kk
        exact y_87_15 ⟨(by unfold z_ok; omega), (fun h => absurd h (by omega)), fun _ => kk m' f1⟩
  exact y_87 (loop n 0 0 1 A m _ rfl rfl (by omega) (by decide) (by omega) (fun _ _ _ => rfl) hA hR kk)
