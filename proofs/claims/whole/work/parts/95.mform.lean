/-! CONTRACTS of the model: whether a sum is of its form, and by what -/
theorem x_el_s {p : Int} {n w d c row : Nat} {A : x_A} : x_el p n w (d + 1) c row A = (if x_fst (fun i => decide (¬ A i c = 0)) (n - row) row = n then x_el p n w d (c + 1) row A else x_el p n w d (c + 1) (row + 1) (x_cle p (x_swp A (x_fst (fun i => decide (¬ A i c = 0)) (n - row) row) row) row c)) := rfl
def n_G (m : z_M) (n w : Nat) (A : x_A) : Prop := ∀ i j, i < n → j ≤ w → m 148 (6 * i + j) = A i j
theorem n_clearsGrid {m : z_M} {g : z_g} {Q : q_V → q_S → Prop} {p : Int} {A : x_A} {row c n w : Nat} {ri ci ni wi : Int} (er : ri = row) (ec : ci = c) (en : ni = n) (ew : wi = w) (h : n_P m p) (hn : n ≤ 6) (hw : w ≤ 4) (hc : c < w) (hr : row < n) (hA : n_G m n w A) (hR : x_GR p n w A) (kk : ∀ m', (∀ a j, ¬ a = 148 → m' a j = m a j) → n_G m' n w (x_cle p A row c) → Q q_dead (z_st m' g)) : z_C 248 [.inr (.inr 131), .inl ri, .inl ci, .inl ni, .inl wi] (z_st m g) Q := by
  have hp := h.1
  have hp5 := z_pr_le hp
  have ecc := hR row c hr (by omega)
  have hPm : ∀ m' : z_M, (∀ a j, ¬ a = 148 → m' a j = m a j) → n_P m' p := fun m' f => n_P_fr h ⟨f 131 1 (by omega), fun a j _ _ => f a j (by omega)⟩
  have hiv := z_inv_rng (x := A row c) hp
  have out : ∀ (d i : Nat) (ii : Int) (m' : z_M) (v6 v7 : q_V), n - i = d → ii = (i : Int) → row < i → i ≤ n → (∀ a j, ¬ a = 148 → m' a j = m a j) → (∀ a b, a < n → b ≤ w → m' 148 (6 * a + b) = if a < i then x_cle p A row c a b else A a b) → z_T 248 15 [.inr (.inr 131), .inl ri, .inl ci, .inl ni, .inl wi, .inl (z_inv p (A row c)), .inl ii, v6, v7] [] (z_st m' g) Q := by
    intro d
    induction d with
    | zero =>
      intro i ii m' v6 v7 hd he hci hi f1 f2
      refine y_248_15 ⟨(by unfold z_ok2; omega), fun _ => kk m' f1 fun a b ha hb => ?_, (fun h => absurd h (by omega))⟩
      rw [f2 a b ha hb, if_pos (by omega)]
    | succ d ih =>
      intro i ii m' v6 v7 hd he hci hi f1 f2
      have e3 : m' 148 (6 * i + c) = A i c := by rw [f2 i c (by omega) (by omega), if_neg (by omega)]
      have b1 := hR i c (by omega) (by omega)
      have b2 : 0 ≤ A i c * z_inv p (A row c) ∧ A i c * z_inv p (A row c) ≤ 31 * 31 := ⟨Int.mul_nonneg (by omega) (by omega), Int.mul_le_mul (by omega) (by omega) (by omega) (by omega)⟩
      have b3 := z_m0 (p := p) (a := A i c * z_inv p (A row c)) (by omega)
      have inn : ∀ (d j : Nat) (ji : Int) (m' : z_M), w + 1 - j = d → ji = (j : Int) → c ≤ j → j ≤ w + 1 → (∀ a j, ¬ a = 148 → m' a j = m a j) → (∀ a b, a < n → b ≤ w → m' 148 (6 * a + b) = if a < i ∨ (a = i ∧ b < j) then x_cle p A row c a b else A a b) → z_T 248 34 [.inr (.inr 131), .inl ri, .inl ci, .inl ni, .inl wi, .inl (z_inv p (A row c)), .inl ii, .inl (A i c * z_inv p (A row c) % p), .inl ji] [] (z_st m' g) Q := by
        intro d2
        induction d2 with
        | zero =>
          intro j ji m' hd2 he2 hcj hj g1 g2
          refine y_248_34 ⟨(by unfold z_ok2; omega), fun _ => ih (i + 1) _ m' _ _ (by omega) (by omega) (by omega) (by omega) g1 fun a b ha hb => ?_, (fun h => absurd h (by omega))⟩
          rw [g2 a b ha hb]
          by_cases h : a < i + 1
          · rw [if_pos h, if_pos (by omega)]
          · rw [if_neg h, if_neg (by omega)]
        | succ d2 ih2 =>
          intro j ji m' hd2 he2 hcj hj g1 g2
          have e4 : m' 148 (6 * i + j) = A i j := by rw [g2 i j (by omega) (by omega), if_neg (by omega)]
          have e5 : m' 148 (6 * row + j) = A row j := by
            rw [g2 row j (by omega) (by omega), if_pos (by omega)]
            unfold x_cle
            rw [if_neg (by omega)]
          have b4 := hR i j (by omega) (by omega)
          have b5 := hR row j (by omega) (by omega)
          have b6 : 0 ≤ (A i c * z_inv p (A row c) % p) * A row j ∧ (A i c * z_inv p (A row c) % p) * A row j ≤ 31 * 31 := ⟨Int.mul_nonneg (by omega) (by omega), Int.mul_le_mul (by omega) (by omega) (by omega) (by omega)⟩
          refine y_248_34 ⟨(by unfold z_ok2; omega), (fun h => absurd h (by omega)), fun _ => ⟨⟨by omega, by omega⟩, ⟨by omega, by omega⟩, ?_⟩⟩
          rw [show ((6 : Int) * ii + ji).toNat = 6 * i + j by omega, show ((6 : Int) * ri + ji).toNat = 6 * row + j by omega, e4, e5]
          refine n_rest (hPm m' g1) (by unfold z_ok; omega) (y_248_65 ⟨⟨by omega, by omega⟩, ?_⟩)
          rw [show ((6 : Int) * ii + ji).toNat = 6 * i + j by omega]
          refine ih2 (j + 1) _ _ (by omega) (by omega) (by omega) (by omega) ?_ ?_
          · intro a b ha
            rw [z_un (by omega)]
            exact g1 a b ha
          · intro a b ha hb
            by_cases hh : a = i ∧ b = j
            · rw [z_ue rfl (by omega), if_pos (by omega), hh.1, hh.2]
              unfold x_cle
              rw [if_pos (by omega)]
            · rw [z_un (by omega), g2 a b ha hb]
              by_cases h2 : a < i ∨ (a = i ∧ b < j)
              · rw [if_pos h2, if_pos (by omega)]
              · rw [if_neg h2, if_neg (by omega)]
      refine y_248_15 ⟨(by unfold z_ok2; omega), (fun h => absurd h (by omega)), fun _ => ⟨⟨by omega, by omega⟩, ?_⟩⟩
      rw [show ((6 : Int) * ii + ci).toNat = 6 * i + c by omega, e3]
      refine n_p (hPm m' f1) (y_248_30 ⟨(by unfold z_dv; omega), ?_⟩)
      refine inn (w + 1 - c) c _ m' rfl ec (Nat.le_refl _) (by omega) f1 fun a b ha hb => ?_
      rw [f2 a b ha hb]
      by_cases h : a < i
      · rw [if_pos h, if_pos (by omega)]
      · rw [if_neg h]
        by_cases h2 : a < i ∨ (a = i ∧ b < c)
        · rw [if_pos h2]
          unfold x_cle
          rw [if_neg (by omega)]
        · rw [if_neg h2]
  refine y_248 ⟨⟨by omega, by omega⟩, ?_⟩
  rw [show ((6 : Int) * ri + ci).toNat = 6 * row + c by omega, hA row c hr (by omega)]
  refine n_over h (by unfold z_ok; omega) (y_248_10 ?_)
  refine out (n - (row + 1)) (row + 1) _ m _ _ rfl (by omega) (by omega) (by omega) (fun _ _ _ => rfl) fun a b ha hb => ?_
  rw [hA a b ha hb]
  split
  · unfold x_cle
    rw [if_neg (by omega)]
  · rfl
/-- the equations of relations from one on, b being due -/
def g_A (p : Int) (S fr : Nat) (b : Nat → Int) : x_A := fun i j => if fr + j + 2 < x_many S then x_rel S (fr + j) i % p else b i
theorem n_isMade {m : z_M} {g : z_g} {Q : q_V → q_S → Prop} {p : Int} {S fr : Nat} {b : Nat → Int} {fi : Int} (ef : fi = fr) (h : n_P m p) (hS : x_V S) (hfr : fr + 2 ≤ x_many S) (hb : ∀ k, k < x_many S → m 146 k = b k ∧ 0 ≤ b k ∧ b k < p) (k1 : x_el p (x_many S) (x_many S - 2 - fr) (x_many S - 2 - fr) 0 0 (g_A p S fr b) → ∀ m', (∀ a j, ¬ a = 148 → m' a j = m a j) → Q (.inl 1) (z_st m' g)) (k0 : ¬ x_el p (x_many S) (x_many S - 2 - fr) (x_many S - 2 - fr) 0 0 (g_A p S fr b) → ∀ m', (∀ a j, ¬ a = 148 → m' a j = m a j) → Q (.inl 0) (z_st m' g)) : z_C 247 [.inr (.inr 131), .inl (S : Int), .inl fi] (z_st m g) Q := by
  have hp := h.1
  have hp5 := z_pr_le hp
  have hS2 : S < 2147483648 := by have := hS.1; omega
  have h6 := hS.2.2
  have hPm : ∀ m' : z_M, (∀ a j, ¬ a = 148 → m' a j = m a j) → n_P m' p := fun m' f => n_P_fr h ⟨f 131 1 (by omega), fun a j _ _ => f a j (by omega)⟩
  obtain ⟨n, en⟩ : ∃ n, x_many S = n := ⟨_, rfl⟩
  obtain ⟨w, ew⟩ : ∃ w, x_many S - 2 - fr = w := ⟨_, rfl⟩
  obtain ⟨A0, eA⟩ : ∃ A0, g_A p S fr b = A0 := ⟨_, rfl⟩
  have eA1 : ∀ i j, j < w → A0 i j = x_rel S (fr + j) i % p := fun i j hj => by
    rw [← eA]
    unfold g_A
    rw [if_pos (by omega)]
  have eA2 : ∀ i, A0 i w = b i := fun i => by
    rw [← eA]
    unfold g_A
    rw [if_neg (by omega)]
  have hR0 : x_GR p n w A0 := fun i j hi hj => by
    by_cases hjw : j < w
    · rw [eA1 i j hjw]; exact z_m0 (by omega)
    · rw [show j = w by omega, eA2]
      exact (hb i (by omega)).2
  rw [ew, en, eA] at k1 k0
  -- are the rows that are left 0
  have rest : ∀ (d row r : Nat) (rowi ri is : Int) (A : x_A) (m' : z_M) (v8 v9 : q_V), n - r = d → rowi = (row : Int) → ri = (r : Int) → row ≤ r → r ≤ n → (∀ a j, ¬ a = 148 → m' a j = m a j) → n_G m' n w A → x_GR p n w A → ((is = 1 ∧ ∀ i, row ≤ i → i < r → A i w = 0) ∨ (is = 0 ∧ ¬ ∀ i, row ≤ i → i < r → A i w = 0)) → ((∀ i, row ≤ i → i < n → A i w = 0) ↔ x_el p n w w 0 0 A0) → z_T 247 134 [.inr (.inr 131), .inl (S : Int), .inl fi, .inl (n : Int), .inl (w : Int), .inl rowi, .inl is, .inl ri, v8, v9] [] (z_st m' g) Q := by
    intro d
    induction d with
    | zero =>
      intro row r rowi ri is A m' v8 v9 hd he1 he2 h1 h2 f1 f2 f3 f4 f5
      obtain rfl : r = n := by omega
      refine y_247_134 ⟨(by unfold z_ok2; omega), fun _ => ⟨by omega, ?_⟩, (fun h => absurd h (by omega))⟩
      rcases f4 with ⟨e, hz⟩ | ⟨e, hz⟩
      · rw [e]; exact k1 (f5.mp hz) m' f1
      · rw [e]; exact k0 (fun hx => hz (f5.mpr hx)) m' f1
    | succ d ih =>
      intro row r rowi ri is A m' v8 v9 hd he1 he2 h1 h2 f1 f2 f3 f4 f5
      have b1 := f3 r w (by omega) (Nat.le_refl _)
      refine y_247_134 ⟨(by unfold z_ok2; omega), (fun h => absurd h (by omega)), fun _ => ⟨⟨by omega, by omega⟩, ?_⟩⟩
      rw [show ((6 : Int) * ri + (w : Int)).toNat = 6 * r + w by omega, f2 r w (by omega) (Nat.le_refl _)]
      refine ⟨(by unfold z_ok; omega), fun hne => ?_, fun heq => ?_⟩
      · refine ih row (r + 1) _ _ _ A m' _ _ (by omega) he1 (by omega) (by omega) (by omega) f1 f2 f3 (Or.inr ⟨?_, fun hz => hne (hz r h1 (by omega))⟩) f5
        rcases f4 with ⟨e, _⟩ | ⟨e, _⟩ <;> rw [e] <;> decide
      · refine ih row (r + 1) _ _ _ A m' _ _ (by omega) he1 (by omega) (by omega) (by omega) f1 f2 f3 ?_ f5
        rcases f4 with ⟨e, hz⟩ | ⟨e, hz⟩
        · refine Or.inl ⟨by rw [e]; decide, fun i i1 i2 => ?_⟩
          by_cases hir : i = r
          · rw [hir]; exact heq
          · exact hz i i1 (by omega)
        · exact Or.inr ⟨by rw [e]; decide, fun hh => hz fun i i1 i2 => hh i i1 (by omega)⟩
  -- column by column
  have cols : ∀ (d c row : Nat) (ci rowi : Int) (A : x_A) (m' : z_M) (v7 v8 v9 : q_V), w - c = d → ci = (c : Int) → rowi = (row : Int) → c ≤ w → row ≤ n → (∀ a j, ¬ a = 148 → m' a j = m a j) → n_G m' n w A → x_GR p n w A → (x_el p n w d c row A ↔ x_el p n w w 0 0 A0) → z_T 247 57 [.inr (.inr 131), .inl (S : Int), .inl fi, .inl (n : Int), .inl (w : Int), .inl rowi, .inl ci, v7, v8, v9] [] (z_st m' g) Q := by
    intro d
    induction d with
    | zero =>
      intro c row ci rowi A m' v7 v8 v9 hd he1 he2 h1 h2 f1 f2 f3 f4
      refine y_247_57 ⟨(by unfold z_ok2; omega), fun _ => ?_, (fun h => absurd h (by omega))⟩
      exact rest (n - row) row row rowi rowi 1 A m' _ _ rfl he2 he2 (Nat.le_refl _) h2 f1 f2 f3 (Or.inl ⟨rfl, fun i h1 h2 => by omega⟩) f4
    | succ d ih =>
      intro c row ci rowi A m' v7 v8 v9 hd he1 he2 h1 h2 f1 f2 f3 f4
      rw [x_el_s] at f4
      have none' : ∀ (ri : Int) (v8 v9 : q_V), x_fst (fun i => decide (¬ A i c = 0)) (n - row) row = n → z_T 247 57 [.inr (.inr 131), .inl (S : Int), .inl fi, .inl (n : Int), .inl (w : Int), .inl rowi, .inl (ci + (1 : Int)), .inl ri, v8, v9] [] (z_st m' g) Q := fun ri v8 v9 hx => by
        rw [if_pos hx] at f4
        exact ih (c + 1) row _ _ A m' _ _ _ (by omega) (by omega) he2 (by omega) h2 f1 f2 f3 f4
      have found : ∀ (r : Nat) (ri : Int) (v9 : q_V), ri = (r : Int) → row ≤ r → r < n → x_fst (fun i => decide (¬ A i c = 0)) (n - row) row = r → z_T 247 82 [.inr (.inr 131), .inl (S : Int), .inl fi, .inl (n : Int), .inl (w : Int), .inl rowi, .inl ci, .inl ri, .inl (0 : Int), v9] [] (z_st m' g) Q := by
        intro r ri v9 eri hrr hrn hx
        rw [hx, if_neg (by omega)] at f4
        have swap : ∀ (e k : Nat) (ki : Int) (m2 : z_M) (v9 : q_V), w + 1 - k = e → ki = (k : Int) → k ≤ w + 1 → (∀ a j, ¬ a = 148 → m2 a j = m a j) → (∀ i j, i < n → j ≤ w → m2 148 (6 * i + j) = if j < k then x_swp A r row i j else A i j) → z_T 247 82 [.inr (.inr 131), .inl (S : Int), .inl fi, .inl (n : Int), .inl (w : Int), .inl rowi, .inl ci, .inl ri, .inl ki, v9] [] (z_st m2 g) Q := by
          intro e
          induction e with
          | zero =>
            intro k ki m2 v9 hd2 hk1 hk2 g1 g2
            have g3 : n_G m2 n w (x_swp A r row) := fun i j hi hj => by rw [g2 i j hi hj, if_pos (by omega)]
            refine y_247_82 ⟨(by unfold z_ok2; omega), fun _ => ?_, (fun h => absurd h (by omega))⟩
            refine n_clearsGrid (A := x_swp A r row) he2 he1 rfl rfl (hPm m2 g1) (by omega) (by omega) (by omega) (by omega) g3 (x_swp_GR hrn (by omega) f3) fun m3 l1 l2 => y_247_127 ?_
            exact ih (c + 1) (row + 1) _ _ _ m3 _ _ _ (by omega) (by omega) (by omega) (by omega) (by omega) (fun a j ha => by rw [l1 a j ha, g1 a j ha]) l2 (x_cle_GR hp (x_swp_GR hrn (by omega) f3)) f4
          | succ e ih2 =>
            intro k ki m2 v9 hd2 hk1 hk2 g1 g2
            have e1 := g2 r k hrn (by omega)
            have e2 := g2 row k (by omega) (by omega)
            rw [if_neg (by omega)] at e1 e2
            refine y_247_82 ⟨(by unfold z_ok2; omega), (fun h => absurd h (by omega)), fun _ => ⟨⟨by omega, by omega⟩, ⟨by omega, by omega⟩, ⟨by omega, by omega⟩, ⟨by omega, by omega⟩, ?_⟩⟩
            rw [show ((6 : Int) * ri + ki).toNat = 6 * r + k by omega, show ((6 : Int) * rowi + ki).toNat = 6 * row + k by omega, e1, e2]
            refine ih2 (k + 1) _ _ _ (by omega) (by omega) (by omega) ?_ ?_
            · intro a j ha
              rw [z_un (by omega), z_un (by omega)]
              exact g1 a j ha
            · intro i j hi hj
              by_cases hjk : j = k
              · subst hjk
                rw [if_pos (by omega)]
                unfold x_swp
                by_cases hic : i = row
                · rw [z_ue rfl (by omega)]
                  by_cases hcr : i = r
                  · rw [if_pos hcr, ← hcr, hic]
                  · rw [if_neg hcr, if_pos hic]
                · rw [z_un (by omega)]
                  by_cases hir : i = r
                  · rw [z_ue rfl (by omega), if_pos hir]
                  · rw [z_un (by omega), if_neg hir, if_neg hic, g2 i j hi hj, if_neg (by omega)]
              · rw [z_un (by omega), z_un (by omega), g2 i j hi hj]
                by_cases h2 : j < k
                · rw [if_pos h2, if_pos (by omega)]
                · rw [if_neg h2, if_neg (by omega)]
        refine swap (w + 1) 0 0 m' _ rfl rfl (by omega) f1 fun i j hi hj => ?_
        rw [if_neg (by omega)]
        exact f2 i j hi hj
      have look : ∀ (e r : Nat) (ri : Int) (v8 v9 : q_V), n - r = e → ri = (r : Int) → row ≤ r → r ≤ n → x_fst (fun i => decide (¬ A i c = 0)) (n - row) row = x_fst (fun i => decide (¬ A i c = 0)) e r → z_T 247 62 [.inr (.inr 131), .inl (S : Int), .inl fi, .inl (n : Int), .inl (w : Int), .inl rowi, .inl ci, .inl ri, v8, v9] [] (z_st m' g) Q := by
        intro e
        induction e with
        | zero =>
          intro r ri v8 v9 hd2 hr1 hr2 hr3 hx
          have hx : x_fst (fun i => decide (¬ A i c = 0)) (n - row) row = r := hx
          exact y_247_62 ⟨(by unfold z_ok2; omega), fun _ => ⟨(by unfold z_ok2; omega), fun hne => absurd (show ri = (n : Int) by omega) hne, fun _ => none' _ _ _ (by omega)⟩, (fun h => absurd h (by omega))⟩
        | succ e ih2 =>
          intro r ri v8 v9 hd2 hr1 hr2 hr3 hx
          have b1 := f3 r c (by omega) (by omega)
          refine y_247_62 ⟨(by unfold z_ok2; omega), (fun h => absurd h (by omega)), fun _ => ⟨⟨by omega, by omega⟩, ?_⟩⟩
          rw [show ((6 : Int) * ri + ci).toNat = 6 * r + c by omega, f2 r c (by omega) (by omega)]
          rw [x_fst_s] at hx
          refine ⟨(by unfold z_ok; omega), fun hne => ⟨(by unfold z_ok2; omega), fun _ => ?_, (fun h => absurd h (by omega))⟩, fun heq => ?_⟩
          · rw [if_pos (by simp [hne])] at hx
            exact found r ri _ hr1 hr2 (by omega) hx
          · rw [if_neg (by simp [heq])] at hx
            exact ih2 (r + 1) _ _ _ (by omega) (by omega) (by omega) (by omega) hx
      refine y_247_57 ⟨(by unfold z_ok2; omega), (fun h => absurd h (by omega)), fun _ => ?_⟩
      exact look (n - row) row _ _ _ rfl he2 (Nat.le_refl _) h2 rfl
  -- the rows
  have out : ∀ (d k : Nat) (ki : Int) (m' : z_M) (v : q_V), n - k = d → ki = (k : Int) → k ≤ n → (∀ a j, ¬ a = 148 → m' a j = m a j) → (∀ i j, i < k → j ≤ w → m' 148 (6 * i + j) = A0 i j) → z_T 247 11 [.inr (.inr 131), .inl (S : Int), .inl fi, .inl (n : Int), .inl (w : Int), .inl ki, v, q_dead, q_dead, q_dead] [] (z_st m' g) Q := by
    intro d
    induction d with
    | zero =>
      intro k ki m' v hd he hk f1 f2
      refine y_247_11 ⟨(by unfold z_ok2; omega), fun _ => ?_, (fun h => absurd h (by omega))⟩
      exact cols w 0 0 0 0 A0 m' _ _ _ rfl rfl rfl (by omega) (by omega) f1 (fun i j hi hj => f2 i j (by omega) hj) hR0 Iff.rfl
    | succ d ih =>
      intro k ki m' v hd he hk f1 f2
      have inn : ∀ (e c : Nat) (ci : Int) (m' : z_M), w - c = e → ci = (c : Int) → c ≤ w → (∀ a j, ¬ a = 148 → m' a j = m a j) → (∀ i j, i < k → j ≤ w → m' 148 (6 * i + j) = A0 i j) → (∀ j, j < c → m' 148 (6 * k + j) = A0 k j) → z_T 247 16 [.inr (.inr 131), .inl (S : Int), .inl fi, .inl (n : Int), .inl (w : Int), .inl ki, .inl ci, q_dead, q_dead, q_dead] [] (z_st m' g) Q := by
        intro e
        induction e with
        | zero =>
          intro c ci m' hd2 he2 hc f1 f2 f3
          obtain rfl : c = w := by omega
          have hbk := hb k (by omega)
          refine y_247_16 ⟨(by unfold z_ok2; omega), fun _ => ⟨⟨by omega, by omega⟩, ⟨by omega, by omega⟩, ?_⟩, (fun h => absurd h (by omega))⟩
          rw [show ((6 : Int) * ki + (c : Int)).toNat = 6 * k + c by omega, show ki.toNat = k by omega, f1 146 k (by omega), hbk.1]
          refine ih (k + 1) _ _ _ (by omega) (by omega) (by omega) ?_ ?_
          · intro a j ha
            rw [z_un (by omega)]
            exact f1 a j ha
          · intro i j hi hj
            by_cases hh : i = k ∧ j = c
            · rw [z_ue rfl (by omega), hh.1, hh.2, eA2]
            · rw [z_un (by omega)]
              by_cases hik : i = k
              · rw [hik]; exact f3 j (by omega)
              · exact f2 i j (by omega) hj
        | succ e ih2 =>
          intro c ci m' hd2 he2 hc f1 f2 f3
          have hr := x_rel_ok (S := S) (i := fr + c) (k := k) (by omega)
          refine y_247_16 ⟨(by unfold z_ok2; omega), (fun h => absurd h (by omega)), fun _ => n_exponent hS2 (by omega) (by omega) (y_247_34 ?_)⟩
          rw [show ki.toNat = k by omega]
          refine n_relationOf hS2 (by omega) (by omega) (by omega) (y_247_35 ?_)
          rw [show (fi + ci).toNat = fr + c by omega]
          refine n_rest (hPm m' f1) (by unfold z_ok; omega) (y_247_36 ⟨⟨by omega, by omega⟩, ?_⟩)
          rw [show ((6 : Int) * ki + ci).toNat = 6 * k + c by omega]
          refine ih2 (c + 1) _ _ (by omega) (by omega) (by omega) ?_ ?_ ?_
          · intro a j ha
            rw [z_un (by omega)]
            exact f1 a j ha
          · intro i j hi hj
            rw [z_un (by omega)]
            exact f2 i j hi hj
          · intro j hj
            by_cases hjc : j = c
            · rw [z_ue rfl (by omega), hjc, eA1 k c (by omega)]
            · rw [z_un (by omega)]
              exact f3 j (by omega)
      refine y_247_11 ⟨(by unfold z_ok2; omega), (fun h => absurd h (by omega)), fun _ => ?_⟩
      exact inn w 0 0 m' rfl rfl (by omega) f1 f2 (fun j hj => by omega)
  refine y_247 (n_many hS2 (y_247_2 ?_))
  rw [en, show (n : Int) - 2 - fi = (w : Int) by omega]
  exact out n 0 0 m _ rfl rfl (by omega) (fun _ _ _ => rfl) (fun i j hi => by omega)
/-- what is left of a, after those found for the relations ahead of i and t of relation i -/
def l_b (p : Int) (S : Nat) (a f : Nat → Int) (i : Nat) (t : Int) (k : Nat) : Int := (a k - z_sum (fun r => f r * x_rel S r k) i - t * (if i + 2 < x_many S then x_rel S i k else 0)) % p
theorem z_sum_abs {f : Nat → Int} {B : Int} : ∀ {n : Nat}, (∀ k, k < n → -B ≤ f k ∧ f k ≤ B) → -(n * B) ≤ z_sum f n ∧ z_sum f n ≤ n * B
  | 0, _ => by simp [z_sum]
  | n + 1, h => by
    have h1 := z_sum_abs (n := n) (fun k hk => h k (by omega))
    have h2 := h n (by omega)
    have h3 : ((n + 1 : Nat) : Int) * B = n * B + B := by rw [Int.natCast_succ, Int.add_mul, Int.one_mul]
    show -(((n + 1 : Nat) : Int) * B) ≤ z_sum f n + f n ∧ z_sum f n + f n ≤ ((n + 1 : Nat) : Int) * B
    omega
theorem x_prod_rel {S i k : Nat} {t : Int} (hi : i + 2 < x_many S) (h0 : 0 ≤ t) (h1 : t ≤ 31) : -(12 * 31) ≤ t * x_rel S i k ∧ t * x_rel S i k ≤ 12 * 31 := by
  have h := x_rel_ok (S := S) (i := i) (k := k) hi
  have := x_mul_rng (a := x_rel S i k) (b := t) (A := 12) (B := 31) h.1 h.2 h0 h1
  rw [Int.mul_comm t]
  exact this
theorem n_leaves {m : z_M} {g : z_g} {Q : q_V → q_S → Prop} {p : Int} {S i : Nat} {a f : Nat → Int} {ii t : Int} (ei : ii = i) (h : n_P m p) (hS : x_V S) (hi : i + 2 ≤ x_many S) (ht0 : 0 ≤ t) (ht : t ≤ 31) (ha : ∀ k, k < x_many S → m 145 k = a k ∧ 0 ≤ a k ∧ a k < p) (hf : ∀ r, r < i → m 147 r = f r ∧ 0 ≤ f r ∧ f r < p) (kk : ∀ m', (∀ a j, ¬ a = 146 → m' a j = m a j) → (∀ k, k < x_many S → m' 146 k = l_b p S a f i t k) → Q q_dead (z_st m' g)) : z_C 246 [.inr (.inr 131), .inl (S : Int), .inl ii, .inl t] (z_st m g) Q := by
  have hp := h.1
  have hp5 := z_pr_le hp
  have hS2 : S < 2147483648 := by have := hS.1; omega
  have h6 := hS.2.2
  have hPm : ∀ m' : z_M, (∀ a j, ¬ a = 146 → m' a j = m a j) → n_P m' p := fun m' f => n_P_fr h ⟨f 131 1 (by omega), fun a j _ _ => f a j (by omega)⟩
  have out : ∀ (d k : Nat) (ki : Int) (m' : z_M) (v5 v6 : q_V), x_many S - k = d → ki = (k : Int) → k ≤ x_many S → (∀ a j, ¬ a = 146 → m' a j = m a j) → (∀ j, j < k → m' 146 j = l_b p S a f i t j) → z_T 246 2 [.inr (.inr 131), .inl (S : Int), .inl ii, .inl t, .inl ki, v5, v6] [] (z_st m' g) Q := by
    intro d
    induction d with
    | zero =>
      intro k ki m' v5 v6 hd he hk f1 f2
      exact y_246_2 (n_many hS2 (y_246_5 ⟨(by unfold z_ok2; omega), fun _ => kk m' f1 fun j hj => f2 j (by omega), (fun h => absurd h (by omega))⟩))
    | succ d ih =>
      intro k ki m' v5 v6 hd he hk f1 f2
      have hak := ha k (by omega)
      have sb : ∀ r, r ≤ i → -(4 * (12 * 31)) ≤ z_sum (fun r => f r * x_rel S r k) r ∧ z_sum (fun r => f r * x_rel S r k) r ≤ 4 * (12 * 31) := fun r hr => by
        have := z_sum_abs (f := fun r => f r * x_rel S r k) (B := 12 * 31) (n := r) (fun q hq => by
          have := hf q (by omega)
          exact x_prod_rel (by omega) (by omega) (by omega))
        have h4 : (r : Int) * (12 * 31) ≤ 4 * (12 * 31) := Int.mul_le_mul_of_nonneg_right (by omega) (by decide)
        omega
      have fin : ∀ (w : Int) (v5 v6 : q_V), w = l_b p S a f i t k → z_T 246 2 [.inr (.inr 131), .inl (S : Int), .inl ii, .inl t, .inl (ki + (1 : Int)), v5, v6] [] (z_st (q_upd m' 146 k w) g) Q := fun w v5 v6 hw => by
        refine ih (k + 1) _ _ _ _ (by omega) (by omega) (by omega) ?_ ?_
        · intro a j ha
          rw [z_un (by omega)]
          exact f1 a j ha
        · intro j hj
          by_cases hjk : j = k
          · rw [z_ue rfl hjk, hjk]; exact hw
          · rw [z_un (by omega)]
            exact f2 j (by omega)
      have inn : ∀ (e r : Nat) (ri v : Int), i - r = e → ri = (r : Int) → r ≤ i → v = a k - z_sum (fun r => f r * x_rel S r k) r → z_T 246 13 [.inr (.inr 131), .inl (S : Int), .inl ii, .inl t, .inl ki, .inl v, .inl ri] [] (z_st m' g) Q := by
        intro e
        induction e with
        | zero =>
          intro r ri v hd2 he2 hr hv
          obtain rfl : r = i := by omega
          have hsb := sb r (Nat.le_refl _)
          refine y_246_13 ⟨(by unfold z_ok2; omega), fun _ => n_many hS2 (y_246_41 ⟨(by unfold z_ok2; omega), fun hge => ?_, fun hlt => n_exponent hS2 (by omega) (by omega) (y_246_49 ?_)⟩), (fun h => absurd h (by omega))⟩
          · rw [Int.mul_zero]
            refine n_rest (hPm m' f1) (by unfold z_ok; omega) (y_246_55 ⟨⟨by omega, by omega⟩, ?_⟩)
            rw [show ki.toNat = k by omega]
            refine fin _ _ _ ?_
            unfold l_b
            rw [if_neg (by omega), hv, Int.mul_zero]
          · rw [show ki.toNat = k by omega]
            have hpr := x_prod_rel (S := S) (i := r) (k := k) (t := t) (by omega) ht0 ht
            refine n_relationOf hS2 (by omega) (by omega) (by omega) (y_246_50 ?_)
            rw [show ii.toNat = r by omega]
            refine n_rest (hPm m' f1) (by unfold z_ok; omega) (y_246_55 ⟨⟨by omega, by omega⟩, ?_⟩)
            rw [show ki.toNat = k by omega]
            refine fin _ _ _ ?_
            unfold l_b
            rw [if_pos (by omega), hv]
        | succ e ih2 =>
          intro r ri v hd2 he2 hr hv
          have hfr := hf r (by omega)
          refine y_246_13 ⟨(by unfold z_ok2; omega), (fun h => absurd h (by omega)), fun _ => ⟨⟨by omega, by omega⟩, n_exponent hS2 (by omega) (by omega) (y_246_26 ?_)⟩⟩
          rw [show ki.toNat = k by omega, show ri.toNat = r by omega, f1 147 r (by omega), hfr.1]
          refine n_relationOf hS2 (by omega) (by omega) (by omega) (y_246_27 ?_)
          rw [show ri.toNat = r by omega]
          refine ih2 (r + 1) _ _ (by omega) (by omega) (by omega) ?_
          rw [hv]
          show _ = a k - (z_sum (fun r => f r * x_rel S r k) r + f r * x_rel S r k)
          omega
      refine y_246_2 (n_many hS2 (y_246_5 ⟨(by unfold z_ok2; omega), (fun h => absurd h (by omega)), fun _ => ⟨⟨by omega, by omega⟩, ?_⟩⟩))
      rw [show ki.toNat = k by omega, f1 145 k (by omega), hak.1]
      refine inn i 0 0 _ rfl rfl (by omega) ?_
      show a k = a k - 0
      omega
  exact y_246 (out _ 0 0 m _ _ rfl rfl (by omega) (fun _ _ _ => rfl) (fun j hj => by omega))
theorem n_aims {m : z_M} {g : z_g} {Q : q_V → q_S → Prop} {s p x : Int} {S : Nat} {kd fg : Int} {T : Nat → Int} (h : n_S m s p S kd fg T) (h0 : 0 ≤ x) (h1 : x < p) (kk : ∀ m', (∀ a j, ¬ a = 145 → m' a j = m a j) → (∀ k, k < x_many S → m' 145 k = x_eqs p S (n_at p S kd fg T) x k (x_many S - 2)) → Q q_dead (z_st m' g)) : z_C 245 [.inr (.inr 131), .inl s, .inl x] (z_st m g) Q := by
  have hP := h.1
  have hp := hP.1
  have hp5 := z_pr_le hp
  have hS := h.2.2.2.2.1
  have hS2 : S < 2147483648 := by have := hS.1; omega
  have h6 := hS.2.2
  have h2 := hS.2.1
  have hN := n_at_N (S := S) (kd := kd) (fg := fg) (told := T) hp
  have loop : ∀ (d k : Nat) (ki : Int) (m' : z_M), 6 - k = d → ki = (k : Int) → k ≤ 6 → (∀ a j, ¬ a = 145 → m' a j = m a j) → (∀ j, j < k → j < x_many S → m' 145 j = x_eqs p S (n_at p S kd fg T) x j (x_many S - 2)) → z_T 245 6 [.inr (.inr 131), .inl s, .inl x, .inl (S : Int), .inl ki] [] (z_st m' g) Q := by
    intro d
    induction d with
    | zero =>
      intro k ki m' hd he hk f1 f2
      exact y_245_6 ⟨(by unfold z_ok2; omega), fun _ => kk m' f1 fun j hj => f2 j (by omega) hj, (fun h => absurd h (by omega))⟩
    | succ d ih =>
      intro k ki m' hd he hk f1 f2
      have hfr : n_fr m m' := ⟨f1 131 1 (by omega), fun a j _ _ => f1 a j (by omega)⟩
      have fin : ∀ w : Int, (k < x_many S → w = x_eqs p S (n_at p S kd fg T) x k (x_many S - 2)) → z_T 245 6 [.inr (.inr 131), .inl s, .inl x, .inl (S : Int), .inl (ki + (1 : Int))] [] (z_st (q_upd m' 145 k w) g) Q := fun w hw => by
        refine ih (k + 1) _ _ (by omega) (by omega) (by omega) ?_ ?_
        · intro a j ha
          rw [z_un (by omega)]
          exact f1 a j ha
        · intro j hj hj2
          by_cases hjk : j = k
          · rw [z_ue rfl hjk, hjk]; exact hw (by omega)
          · rw [z_un (by omega)]
            exact f2 j (by omega) hj2
      refine y_245_6 ⟨(by unfold z_ok2; omega), (fun h => absurd h (by omega)), fun _ => n_many hS2 (y_245_15 ⟨(by unfold z_ok2; omega), fun hge => ⟨⟨by omega, by omega⟩, ?_⟩, fun hlt => ?_⟩)⟩
      · rw [show ki.toNat = k by omega]
        exact fin 0 (fun h => by omega)
      · have hl := x_at_le (S := S) (k := k) (by omega)
        have b1 := hN.1 (x_at S k)
        have b2 := z_m0 (p := p) (a := x ^ x_at S k) (by omega)
        have b3 : 0 ≤ n_at p S kd fg T (x_at S k) * (x ^ x_at S k % p) ∧ n_at p S kd fg T (x_at S k) * (x ^ x_at S k % p) ≤ 31 * 31 := ⟨Int.mul_nonneg (by omega) (by omega), Int.mul_le_mul (by omega) (by omega) (by omega) (by omega)⟩
        refine n_exponent hS2 (by omega) (by omega) (y_245_21 ?_)
        rw [show ki.toNat = k by omega]
        refine n_numberOf (n_S_fr h hfr) (by omega) (by omega) (y_245_22 (n_exponent hS2 (by omega) (by omega) (y_245_27 ?_)))
        rw [show ki.toNat = k by omega]
        refine n_power (n_P_fr hP hfr) (by unfold z_ok; omega) (by omega) (by omega) (y_245_28 ?_)
        rw [show ((x_at S k : Nat) : Int).toNat = x_at S k by omega]
        refine n_p (n_P_fr hP hfr) (y_245_31 ⟨(by unfold z_dv; omega), ⟨by omega, by omega⟩, ?_⟩)
        rw [show ki.toNat = k by omega]
        refine fin _ fun _ => ?_
        unfold x_eqs
        rw [if_neg (by omega)]
  exact y_245 (n_setOf h (y_245_3 (loop 6 0 0 m rfl rfl (by omega) (fun _ _ _ => rfl) (fun j hj => by omega))))
theorem x_eqs_u {p : Int} {S : Nat} {N : Nat → Int} {x : Int} {k : Nat} (hp : z_pr p) (h2 : 2 ≤ x_many S) : 0 ≤ x_eqs p S N x k (x_many S - 2) ∧ x_eqs p S N x k (x_many S - 2) < p := x_eqs_GR (n := k + 1) (u := x_many S - 2) hp k (x_many S - 2) (by omega) (Nat.le_refl _)
/-- what is to be made of all relations: the equations themselves -/
theorem x_el_sol {p : Int} {S : Nat} {N f : Nat → Int} {x : Int} (hp : z_pr p) (hS : x_V S) : x_el p (x_many S) (x_many S - 2 - 0) (x_many S - 2 - 0) 0 0 (g_A p S 0 (l_b p S (fun k => x_eqs p S N x k (x_many S - 2)) f 0 0)) ↔ ∃ t, x_sol p (x_many S) (x_many S - 2) (x_eqs p S N x) t := by
  have hp5 := z_pr_le hp
  have h2 := hS.2.1
  rw [Nat.sub_zero]
  have eA : ∀ i j, j ≤ x_many S - 2 → g_A p S 0 (l_b p S (fun k => x_eqs p S N x k (x_many S - 2)) f 0 0) i j = x_eqs p S N x i j := fun i j hj => by
    unfold g_A
    by_cases h : 0 + j + 2 < x_many S
    · rw [if_pos h]
      unfold x_eqs
      rw [if_pos (by omega), Nat.zero_add]
    · rw [if_neg h, show j = x_many S - 2 by omega]
      unfold l_b
      have hb := x_eqs_u (N := N) (x := x) (k := i) hp h2
      show (x_eqs p S N x i (x_many S - 2) - 0 - 0 * _) % p = _
      rw [Int.zero_mul, Int.sub_zero, Int.sub_zero, z_mi hb.1 hb.2]
  have hR : x_GR p (x_many S) (x_many S - 2) (g_A p S 0 (l_b p S (fun k => x_eqs p S N x k (x_many S - 2)) f 0 0)) := fun i j hi hj => by
    rw [eA i j hj]
    exact x_eqs_GR hp i j hi hj
  rw [x_el_sv hp _ 0 0 _ (by omega) (Nat.zero_le _) hR]
  constructor
  · rintro ⟨t, ht⟩
    refine ⟨t, fun i hi => ?_⟩
    have := ht i (Nat.zero_le _) hi
    rw [eA i _ (Nat.le_refl _)] at this
    rw [← this]
    congr 1
    refine z_sum_congr fun k hk => ?_
    rw [Nat.zero_add, eA i k (by omega)]
  · rintro ⟨t, ht⟩
    refine ⟨t, fun i _ hi => ?_⟩
    rw [eA i _ (Nat.le_refl _), ← ht i hi]
    congr 1
    refine z_sum_congr fun k hk => ?_
    rw [Nat.zero_add, eA i k (by omega)]
def n_frm (m m' : z_M) : Prop := ∀ a j, (a < 145 ∨ 148 < a) → m' a j = m a j
theorem n_isFormedAt {m : z_M} {g : z_g} {Q : q_V → q_S → Prop} {s p x : Int} {S : Nat} {kd fg : Int} {T : Nat → Int} (h : n_S m s p S kd fg T) (h0 : 0 ≤ x) (h1 : x < p) (k1 : (∃ t, x_sol p (x_many S) (x_many S - 2) (x_eqs p S (n_at p S kd fg T) x) t) → ∀ m', n_frm m m' → (∀ k, k < x_many S → m' 145 k = x_eqs p S (n_at p S kd fg T) x k (x_many S - 2)) → Q (.inl 1) (z_st m' g)) (k0 : ¬ (∃ t, x_sol p (x_many S) (x_many S - 2) (x_eqs p S (n_at p S kd fg T) x) t) → ∀ m', n_frm m m' → Q (.inl 0) (z_st m' g)) : z_C 244 [.inr (.inr 131), .inl s, .inl x] (z_st m g) Q := by
  have hP := h.1
  have hp := hP.1
  have hp5 := z_pr_le hp
  have hS := h.2.2.2.2.1
  have h2 := hS.2.1
  refine y_244 (n_aims h h0 h1 fun m1 f1 f2 => y_244_4 ?_)
  have hfr1 : n_fr m m1 := ⟨f1 131 1 (by omega), fun a j _ _ => f1 a j (by omega)⟩
  refine n_setOf (n_S_fr h hfr1) (y_244_8 ?_)
  refine n_leaves (i := 0) (a := fun k => x_eqs p S (n_at p S kd fg T) x k (x_many S - 2)) (f := fun _ => 0) rfl (n_P_fr hP hfr1) hS (by omega) (by decide) (by decide) (fun k hk => ⟨f2 k hk, x_eqs_u hp h2⟩) (fun r hr => by omega) fun m2 g1 g2 => y_244_11 ?_
  have hfr2 : n_fr m m2 := ⟨by rw [g1 131 1 (by omega)]; exact hfr1.1, fun a j h3 h4 => by rw [g1 a j (by omega)]; exact hfr1.2 a j h3 h4⟩
  refine n_setOf (n_S_fr h hfr2) (y_244_15 ?_)
  refine n_isMade (fr := 0) (b := l_b p S (fun k => x_eqs p S (n_at p S kd fg T) x k (x_many S - 2)) (fun _ => 0) 0 0) rfl (n_P_fr hP hfr2) hS (by omega) (fun k hk => ⟨g2 k hk, z_m0 (by omega)⟩) (fun hel m3 l1 => y_244_17 ⟨Or.inr rfl, k1 ((x_el_sol hp hS).mp hel) m3 ?_ ?_⟩) (fun hel m3 l1 => y_244_17 ⟨Or.inl rfl, k0 (fun hs => hel ((x_el_sol hp hS).mpr hs)) m3 ?_⟩)
  · intro a j ha
    rw [l1 a j (by omega), g1 a j (by omega), f1 a j (by omega)]
  · intro k hk
    rw [l1 145 k (by omega), g1 145 k (by omega)]
    exact f2 k hk
  · intro a j ha
    rw [l1 a j (by omega), g1 a j (by omega), f1 a j (by omega)]
theorem z_sum_split (f : Nat → Int) (a : Nat) : ∀ b, z_sum f (a + b) = z_sum f a + z_sum (fun j => f (a + j)) b
  | 0 => by simp [z_sum]
  | b + 1 => by
    show z_sum f (a + b) + f (a + b) = z_sum f a + (z_sum (fun j => f (a + j)) b + f (a + b))
    rw [z_sum_split f a b]; omega
/-- a completion: those found, t of relation i, and the rest -/
theorem x_el_step {p : Int} {S i : Nat} {N b : Nat → Int} {x t : Int} (hp : z_pr p) (hS : x_V S) (hi : i + 2 < x_many S) : x_el p (x_many S) (x_many S - 2 - (i + 1)) (x_many S - 2 - (i + 1)) 0 0 (g_A p S (i + 1) (l_b p S (fun k => x_eqs p S N x k (x_many S - 2)) b i t)) ↔ ∃ T, x_sol p (x_many S) (x_many S - 2) (x_eqs p S N x) T ∧ (∀ j, j < i → T j = b j) ∧ T i = t := by
  have hp5 := z_pr_le hp
  have h2 := hS.2.1
  obtain ⟨w, ew⟩ : ∃ w, x_many S - 2 - (i + 1) = w := ⟨_, rfl⟩
  rw [ew]
  have hu : x_many S - 2 = i + (1 + w) := by omega
  obtain ⟨G, eG⟩ : ∃ G, g_A p S (i + 1) (l_b p S (fun k => x_eqs p S N x k (x_many S - 2)) b i t) = G := ⟨_, rfl⟩
  have eG1 : ∀ k j, j < w → G k j = x_eqs p S N x k (i + 1 + j) := fun k j hj => by
    rw [← eG]
    unfold g_A x_eqs
    rw [if_pos (by omega), if_pos (by omega)]
  have eG2 : ∀ k, G k w = (x_eqs p S N x k (x_many S - 2) - z_sum (fun r => b r * x_rel S r k) i - t * x_rel S i k) % p := fun k => by
    rw [← eG]
    unfold g_A
    rw [if_neg (by omega)]
    unfold l_b
    rw [if_pos hi]
  have hR : x_GR p (x_many S) w G := fun k j hk hj => by
    by_cases hjw : j < w
    · rw [eG1 k j hjw]; exact x_eqs_GR (u := x_many S - 2) hp k _ hk (by omega)
    · rw [show j = w by omega, eG2]; exact z_m0 (by omega)
  rw [eG, x_el_sv hp _ 0 0 _ (by omega) (Nat.zero_le _) hR]
  -- the whole row's sum
  have key : ∀ (T : Nat → Int) (k : Nat), (∀ j, j < i → T j = b j) → T i = t → z_sum (fun j => x_eqs p S N x k j * T j) (x_many S - 2) % p = (z_sum (fun r => b r * x_rel S r k) i + t * x_rel S i k + z_sum (fun j => G k (0 + j) * T (i + 1 + j)) w) % p := fun T k h3 h4 => by
    rw [hu, z_sum_split, z_sum_split _ 1 w]
    have e1 : z_sum (fun j => x_eqs p S N x k j * T j) i % p = z_sum (fun r => b r * x_rel S r k) i % p := z_msum fun j hj => by
      unfold x_eqs
      rw [if_pos (by omega), h3 j hj, Int.mul_comm (b j)]
      exact z_mmul z_mm rfl
    have e2 : z_sum (fun j => x_eqs p S N x k (i + j) * T (i + j)) 1 % p = (t * x_rel S i k) % p := by
      show (0 + x_eqs p S N x k i * T i) % p = _
      unfold x_eqs
      rw [if_pos hi, h4, Int.zero_add, Int.mul_comm t]
      exact z_mmul z_mm rfl
    have e3 : z_sum (fun j => x_eqs p S N x k (i + (1 + j)) * T (i + (1 + j))) w = z_sum (fun j => G k (0 + j) * T (i + 1 + j)) w := z_sum_congr fun j hj => by
      rw [Nat.zero_add, eG1 k j hj, show i + (1 + j) = i + 1 + j by omega]
    rw [e3, ← Int.add_assoc]
    exact z_madd (z_madd e1 e2) rfl
  constructor
  · rintro ⟨τ, hτ⟩
    obtain ⟨T, hT⟩ : ∃ T : Nat → Int, T = fun j => if j < i then b j else if j = i then t else τ (j - (i + 1)) := ⟨_, rfl⟩
    have t1 : ∀ j, j < i → T j = b j := fun j hj => by rw [hT]; exact if_pos hj
    have t2 : T i = t := by rw [hT]; show (if i < i then _ else if i = i then t else _) = t; rw [if_neg (by omega), if_pos rfl]
    have t3 : ∀ j, T (i + 1 + j) = τ j := fun j => by rw [hT]; show (if i + 1 + j < i then _ else if i + 1 + j = i then t else τ (i + 1 + j - (i + 1))) = τ j; rw [if_neg (by omega), if_neg (by omega), show i + 1 + j - (i + 1) = j by omega]
    refine ⟨T, fun k hk => ?_, t1, t2⟩
    have h3 := hτ k (Nat.zero_le _) hk
    rw [eG2, z_mm] at h3
    rw [key T k t1 t2]
    have e4 : z_sum (fun j => G k (0 + j) * T (i + 1 + j)) w = z_sum (fun j => G k (0 + j) * τ (0 + j)) w := z_sum_congr fun j _ => by rw [t3, Nat.zero_add]
    rw [e4, z_madd (p := p) (a := z_sum (fun r => b r * x_rel S r k) i + t * x_rel S i k) rfl h3]
    congr 1
    omega
  · rintro ⟨T, h3, t1, t2⟩
    refine ⟨fun j => T (i + 1 + j), fun k _ hk => ?_⟩
    have h4 := h3 k hk
    rw [key T k t1 t2] at h4
    rw [eG2, z_mm]
    have e4 : z_sum (fun j => G k (0 + j) * T (i + 1 + (0 + j))) w = z_sum (fun j => G k (0 + j) * T (i + 1 + j)) w := z_sum_congr fun j _ => by rw [Nat.zero_add]
    rw [e4]
    have := z_msub (p := p) (c := z_sum (fun r => b r * x_rel S r k) i + t * x_rel S i k) h4 rfl
    rw [show z_sum (fun r => b r * x_rel S r k) i + t * x_rel S i k + z_sum (fun j => G k (0 + j) * T (i + 1 + j)) w - (z_sum (fun r => b r * x_rel S r k) i + t * x_rel S i k) = z_sum (fun j => G k (0 + j) * T (i + 1 + j)) w by omega] at this
    rw [this]
    congr 1
    omega
theorem n_findsBy {m : z_M} {g : z_g} {Q : q_V → q_S → Prop} {p x : Int} {S : Nat} {N b : Nat → Int} (h : n_P m p) (hS : x_V S) (ha : ∀ k, k < x_many S → m 145 k = x_eqs p S N x k (x_many S - 2)) (hb : x_lex p (x_many S) (x_many S - 2) (x_eqs p S N x) b) (kk : ∀ m', (∀ a j, (a < 146 ∨ 148 < a) → m' a j = m a j) → (∀ c, c < x_many S - 2 → m' 147 c = b c) → Q q_dead (z_st m' g)) : z_C 250 [.inr (.inr 131), .inl (S : Int)] (z_st m g) Q := by
  have hp := h.1
  have hp5 := z_pr_le hp
  have hS2 : S < 2147483648 := by have := hS.1; omega
  have h2 := hS.2.1
  have h6 := hS.2.2
  obtain ⟨hb1, hb2, hb3⟩ := hb
  have hPm : ∀ m' : z_M, (∀ a j, (a < 146 ∨ 148 < a) → m' a j = m a j) → n_P m' p := fun m' f => n_P_fr h ⟨f 131 1 (by omega), fun a j _ _ => f a j (by omega)⟩
  have out : ∀ (d i : Nat) (ii : Int) (m' : z_M) (v : q_V), x_many S - 2 - i = d → ii = (i : Int) → i ≤ x_many S - 2 → (∀ a j, (a < 146 ∨ 148 < a) → m' a j = m a j) → (∀ c, c < i → m' 147 c = b c) → z_T 250 2 [.inr (.inr 131), .inl (S : Int), .inl ii, v] [] (z_st m' g) Q := by
    intro d
    induction d with
    | zero =>
      intro i ii m' v hd he hi f1 f2
      exact y_250_2 (n_many hS2 (y_250_5 ⟨(by unfold z_ok2; omega), fun _ => kk m' f1 fun c hc => f2 c (by omega), (fun h => absurd h (by omega))⟩))
    | succ d ih =>
      intro i ii m' v hd he hi f1 f2
      have hbi := hb2 i (by omega)
      have leaves : ∀ (t : Int) (m2 : z_M) (Q' : q_V → q_S → Prop), 0 ≤ t → t ≤ 31 → (∀ a j, (a < 146 ∨ 148 < a) → m2 a j = m a j) → (∀ c, c < i → m2 147 c = b c) → (∀ m3, (∀ a j, (a < 146 ∨ 148 < a) → m3 a j = m a j) → (∀ c, c < i → m3 147 c = b c) → (∀ k, k < x_many S → m3 146 k = l_b p S (fun k => x_eqs p S N x k (x_many S - 2)) b i t k) → Q' q_dead (z_st m3 g)) → z_C 246 [.inr (.inr 131), .inl (S : Int), .inl ii, .inl t] (z_st m2 g) Q' := fun t m2 Q' t0 t1 g1 g2 k => by
        refine n_leaves (i := i) (a := fun k => x_eqs p S N x k (x_many S - 2)) (f := b) he (hPm m2 g1) hS (by omega) t0 t1 (fun k hk => ⟨by rw [g1 145 k (by omega)]; exact ha k hk, x_eqs_u hp h2⟩) (fun r hr => ⟨g2 r hr, hb2 r (by omega)⟩) fun m3 l1 l2 => k m3 (fun a j hh => by rw [l1 a j (by omega)]; exact g1 a j hh) (fun c hc => by rw [l1 147 c (by omega)]; exact g2 c hc) l2
      have search : ∀ (e : Nat) (t : Int) (m2 : z_M), t = b i - (e : Int) → 0 ≤ t → (∀ a j, (a < 146 ∨ 148 < a) → m2 a j = m a j) → (∀ c, c < i → m2 147 c = b c) → (∀ k, k < x_many S → m2 146 k = l_b p S (fun k => x_eqs p S N x k (x_many S - 2)) b i t k) → z_T 250 15 [.inr (.inr 131), .inl (S : Int), .inl ii, .inl t] [] (z_st m2 g) Q := by
        intro e
        induction e with
        | zero =>
          intro t m2 ht t0 g1 g2 g3
          refine y_250_15 (n_isMade (fr := i + 1) (b := l_b p S (fun k => x_eqs p S N x k (x_many S - 2)) b i t) (by omega) (hPm m2 g1) hS (by omega) (fun k hk => ⟨g3 k hk, z_m0 (by omega)⟩) (fun hel m3 l1 => y_250_21 ⟨(by unfold z_ok; omega), fun _ => ⟨⟨by omega, by omega⟩, ?_⟩, fun h => absurd h (by decide)⟩) (fun hel m3 l1 => absurd ((x_el_step hp hS (by omega)).mpr ⟨b, hb1, fun _ _ => rfl, by omega⟩) hel))
          rw [show ii.toNat = i by omega]
          refine ih (i + 1) _ _ _ (by omega) (by omega) (by omega) ?_ ?_
          · intro a j hh
            rw [z_un (by omega), l1 a j (by omega)]
            exact g1 a j hh
          · intro c hc
            by_cases hci : c = i
            · rw [z_ue rfl hci, hci]; omega
            · rw [z_un (by omega), l1 147 c (by omega)]
              exact g2 c (by omega)
        | succ e ih2 =>
          intro t m2 ht t0 g1 g2 g3
          refine y_250_15 (n_isMade (fr := i + 1) (b := l_b p S (fun k => x_eqs p S N x k (x_many S - 2)) b i t) (by omega) (hPm m2 g1) hS (by omega) (fun k hk => ⟨g3 k hk, z_m0 (by omega)⟩) (fun hel m3 l1 => ?_) (fun hel m3 l1 => y_250_21 ⟨(by unfold z_ok; omega), fun h => absurd rfl h, fun _ => ?_⟩))
          · -- one that is less can't be
            exfalso
            obtain ⟨T, hT1, hT2, hT3⟩ := (x_el_step hp hS (by omega)).mp hel
            have := hb3 T i (by omega) hT1 (fun j hj => by rw [hT2 j hj])
            rw [hT3, z_mi t0 (by omega)] at this
            omega
          · refine leaves (t + 1) m3 _ (by omega) (by omega) (fun a j hh => by rw [l1 a j (by omega)]; exact g1 a j hh) (fun c hc => by rw [l1 147 c (by omega)]; exact g2 c hc) fun m4 q1 q2 q3 => y_250_28 ?_
            exact ih2 (t + 1) m4 (by omega) (by omega) q1 q2 q3
      refine y_250_2 (n_many hS2 (y_250_5 ⟨(by unfold z_ok2; omega), (fun h => absurd h (by omega)), fun _ => leaves 0 m' _ (by decide) (by decide) f1 f2 fun m3 q1 q2 q3 => ?_⟩))
      exact search (b i).toNat 0 m3 (by omega) (by decide) q1 q2 q3
  exact y_250 (out _ 0 0 m _ rfl rfl (by omega) (fun _ _ _ => rfl) (fun c hc => by omega))
