/-! CONTRACTS of the model: the matrix, its determinant -/
theorem n_isIn {v lo hi : Int} {S : q_S} {Q : q_V → q_S → Prop} (hv : z_ok v) (hl : z_ok lo) (hh : z_ok hi) (k1 : lo ≤ v → v ≤ hi → Q (.inl 1) S) (k0 : ¬ (lo ≤ v ∧ v ≤ hi) → Q (.inl 0) S) : z_C 188 [.inl v, .inl lo, .inl hi] S Q := by
  refine c_isIn ?_
  rw [q_w_id hv.1 hv.2, q_w_id hl.1 hl.2, q_w_id hh.1 hh.2]
  by_cases h : lo ≤ v ∧ v ≤ hi
  · rw [if_pos h]; exact k1 h.1 h.2
  · rw [if_neg h]; exact k0 h
def n_M (m : z_M) (n : Nat) (A : x_A) : Prop := ∀ i j, i < n → j < n → m 144 (23 * i + j) = A i j
theorem n_fills {m : z_M} {g : z_g} {Q : q_V → q_S → Prop} {s p : Int} {S : Nat} {kd fg : Int} {T : Nat → Int} (h : n_S m s p S kd fg T) (kk : ∀ m', (∀ a j, (a < 140 ∨ 141 < a) → ¬ a = 144 → ¬ (a = 131 ∧ (j = 16 ∨ j = 18)) → m' a j = m a j) → m' 131 18 = ((2 * (x_at S (x_many S - 1) - x_at S 0) - 1 : Nat) : Int) → n_M m' (2 * (x_at S (x_many S - 1) - x_at S 0) - 1) (x_cell (l_N S (n_at p S kd fg T)) (l_D p (l_N S (n_at p S kd fg T))) (x_at S (x_many S - 1) - x_at S 0)) → Q q_dead (z_st m' g)) : z_C 234 [.inr (.inr 131), .inl s] (z_st m g) Q := by
  obtain ⟨L, eL⟩ : ∃ L, l_N S (n_at p S kd fg T) = L := ⟨_, rfl⟩
  obtain ⟨sp, esp⟩ : ∃ sp, x_at S (x_many S - 1) - x_at S 0 = sp := ⟨_, rfl⟩
  have hS := h.2.2.2.2.1
  have h2 := hS.2.1
  have hl := x_at_le (S := S) (k := x_many S - 1) (by omega)
  have hlt := x_at_lt (S := S) (i := 0) (j := x_many S - 1) (by omega) (by omega)
  rw [eL, esp] at kk
  refine y_234 (n_lowers h fun m1 f1 f2 f3 f4 => y_234_3 ?_)
  rw [eL] at f3 f4
  rw [show (x_at S (x_many S - 1) : Int) - (x_at S 0 : Int) = (sp : Int) by omega] at f2
  obtain ⟨D, eD⟩ : ∃ D, l_D p L = D := ⟨_, rfl⟩
  rw [eD] at f4 kk
  have hsp : 1 ≤ sp ∧ sp ≤ 12 := by omega
  let J : z_M → Prop := fun m' => (∀ a j, (a < 140 ∨ 141 < a) → ¬ a = 144 → ¬ (a = 131 ∧ (j = 16 ∨ j = 18)) → m' a j = m a j) ∧ m' 131 18 = ((2 * sp - 1 : Nat) : Int) ∧ m' 131 16 = (sp : Int) ∧ t_R m' 140 L ∧ t_R m' 141 D
  have hJ : ∀ (m' : z_M) (k : Nat) (v : Int), J m' → J (q_upd m' 144 k v) := fun m' k v ⟨j1, j2, j3, j4, j5⟩ => ⟨fun a j h1 h2 h3 => by rw [z_un (by omega)]; exact j1 a j h1 h2 h3, by rw [z_un (by omega)]; exact j2, by rw [z_un (by omega)]; exact j3, fun j hj => by rw [z_un (by omega)]; exact j4 j hj, fun j hj => by rw [z_un (by omega)]; exact j5 j hj⟩
  have out : ∀ (d r : Nat) (ri : Int) (m' : z_M) (v3 v4 v5 v6 v7 : q_V), 2 * sp - 1 - r = d → ri = (r : Int) → r ≤ 2 * sp - 1 → J m' → (∀ a b, a < r → b < 2 * sp - 1 → m' 144 (23 * a + b) = x_cell L D sp a b) → z_T 234 13 [.inr (.inr 131), .inl s, .inl ri, v3, v4, v5, v6, v7] [] (z_st m' g) Q := by
    intro d
    induction d with
    | zero =>
      intro r ri m' v3 v4 v5 v6 v7 hd he hr hj g1
      obtain ⟨j1, j2, j3, j4, j5⟩ := hj
      exact y_234_13 ⟨(by unfold z_ok2; omega), fun _ => kk m' j1 j2 fun a b ha hb => g1 a b (by omega) hb, (fun h => absurd h (by omega))⟩
    | succ d ih =>
      intro r ri m' v3 v4 v5 v6 v7 hd he hr hj g1
      have inn : ∀ (lo fr dp : Int), ((lo = 1 ∧ fr = (r : Int) ∧ dp = (sp : Int) ∧ r + 1 < sp) ∨ (lo = 0 ∧ fr = (r : Int) - (sp : Int) + 1 ∧ dp = (sp : Int) - 1 ∧ sp ≤ r + 1)) → ∀ (d2 c : Nat) (ci : Int) (m' : z_M) (v : q_V), 2 * sp - 1 - c = d2 → ci = (c : Int) → c ≤ 2 * sp - 1 → J m' → (∀ a b, a < r → b < 2 * sp - 1 → m' 144 (23 * a + b) = x_cell L D sp a b) → (∀ b, b < c → m' 144 (23 * r + b) = x_cell L D sp r b) → z_T 234 50 [.inr (.inr 131), .inl s, .inl ri, .inl lo, .inl fr, .inl dp, .inl ci, v] [] (z_st m' g) Q := by
        intro lo fr dp hlo d2
        induction d2 with
        | zero =>
          intro c ci m' v hd2 he2 hc hj g1 g2
          obtain ⟨j1, j2, j3, j4, j5⟩ := hj
          refine y_234_50 ⟨(by unfold z_ok2; omega), fun _ => ?_, (fun h => absurd h (by omega))⟩
          refine ih (r + 1) _ m' _ _ _ _ _ (by omega) (by omega) (by omega) ⟨j1, j2, j3, j4, j5⟩ fun a b ha hb => ?_
          by_cases har : a = r
          · rw [har]; exact g2 b (by omega)
          · exact g1 a b (by omega) hb
        | succ d2 ih2 =>
          intro c ci m' v hd2 he2 hc hj g1 g2
          have hj' := hj
          obtain ⟨j1, j2, j3, j4, j5⟩ := hj
          have next : ∀ (w : Int) (v : q_V), w = x_cell L D sp r c → z_T 234 50 [.inr (.inr 131), .inl s, .inl ri, .inl lo, .inl fr, .inl dp, .inl (ci + (1 : Int)), v] [] (z_st (q_upd m' 144 (23 * r + c) w) g) Q := fun w v hw => by
            refine ih2 (c + 1) _ _ _ (by omega) (by omega) (by omega) (hJ _ _ _ hj') ?_ ?_
            · intro a b ha hb
              rw [z_un (by omega)]
              exact g1 a b ha hb
            · intro b hb
              by_cases hbc : b = c
              · rw [z_ue rfl (by omega), hbc]; exact hw
              · rw [z_un (by omega)]
                exact g2 b (by omega)
          have eix : ((23 : Int) * ri + ci).toNat = 23 * r + c := by omega
          unfold x_cell at next
          refine y_234_50 ⟨(by unfold z_ok2; omega), (fun h => absurd h (by omega)), fun _ => n_isIn (by unfold z_ok; omega) (by unfold z_ok; omega) (by unfold z_ok; omega) (fun h1 h2 => y_234_71 ⟨(by unfold z_ok; omega), fun _ => ⟨(by unfold z_ok; omega), fun hz => ⟨⟨by omega, by omega⟩, ⟨by omega, by omega⟩, ?_⟩, fun hz => ⟨⟨by omega, by omega⟩, ⟨by omega, by omega⟩, ?_⟩⟩, fun h => absurd h (by decide)⟩) (fun hn => y_234_71 ⟨(by unfold z_ok; omega), fun h => absurd rfl h, fun _ => ⟨⟨by omega, by omega⟩, ?_⟩⟩)⟩
          · rw [eix]
            refine next _ _ ?_
            rw [if_neg (by omega), if_pos (by omega), j5 _ (by omega), show (dp - (ci - fr)).toNat = r - c by omega]
          · rw [eix]
            refine next _ _ ?_
            rw [if_pos (by omega), if_pos (by omega), j4 _ (by omega), show (dp - (ci - fr)).toNat = sp + r - c by omega]
          · rw [eix]
            refine next _ _ ?_
            by_cases hc1 : r + 1 < sp
            · rw [if_pos hc1, if_neg (by omega)]
            · rw [if_neg hc1, if_neg (by omega)]
      have hj' := hj
      obtain ⟨j1, j2, j3, j4, j5⟩ := hj
      refine y_234_13 ⟨(by unfold z_ok2; omega), (fun h => absurd h (by omega)), fun _ => ⟨(by unfold z_ok2; omega), fun h1 => ⟨(by unfold z_ok; omega), fun _ => ⟨(by unfold z_ok; omega), fun _ => ?_, fun h => absurd rfl h⟩, fun h => absurd rfl h⟩, fun h1 => ⟨(by unfold z_ok; omega), fun h => absurd h (by decide), fun _ => ⟨(by unfold z_ok; omega), fun h => absurd h (by decide), fun _ => ?_⟩⟩⟩⟩
      · exact inn 0 _ _ (Or.inr ⟨rfl, by omega, by omega, by omega⟩) _ 0 0 m' _ rfl rfl (by omega) hj' g1 (fun b hb => by omega)
      · exact inn 1 _ _ (Or.inl ⟨rfl, by omega, by omega, by omega⟩) _ 0 0 m' _ rfl rfl (by omega) hj' g1 (fun b hb => by omega)
  refine out _ 0 0 _ _ _ _ _ _ rfl rfl (by omega) ⟨?_, ?_, ?_, ?_, ?_⟩ (fun a b ha => by omega)
  · intro a j h1 h2 h3
    rw [z_un (by omega)]
    exact f1 a j h1 (by omega)
  · rw [z_ue rfl rfl]; omega
  · rw [z_un (by omega)]; exact f2
  · intro j hj
    rw [z_un (by omega)]
    exact f3 j hj
  · intro j hj
    rw [z_un (by omega)]
    exact f4 j hj
theorem n_trades {m : z_M} {g : z_g} {Q : q_V → q_S → Prop} {r c w n : Nat} {A : x_A} {ri ci wi : Int} (er : ri = r) (ec : ci = c) (ew : wi = n) (hr : r < n) (hc : c < n) (hn : n ≤ 23) (hA : n_M m n A) (kk : ∀ m', (∀ a j, ¬ a = 144 → m' a j = m a j) → n_M m' n (x_swp A r c) → Q q_dead (z_st m' g)) : z_C 238 [.inr (.inr 131), .inl ri, .inl ci, .inl wi] (z_st m g) Q := by
  have loop : ∀ (d k : Nat) (ki : Int) (m' : z_M) (v : q_V), n - k = d → ki = (k : Int) → k ≤ n → (∀ a j, ¬ a = 144 → m' a j = m a j) → (∀ i j, i < n → j < n → m' 144 (23 * i + j) = if j < k then x_swp A r c i j else A i j) → z_T 238 2 [.inr (.inr 131), .inl ri, .inl ci, .inl wi, .inl ki, v] [] (z_st m' g) Q := by
    intro d
    induction d with
    | zero =>
      intro k ki m' v hd he hk f1 f2
      refine y_238_2 ⟨(by unfold z_ok2; omega), fun _ => kk m' f1 fun i j hi hj => ?_, (fun h => absurd h (by omega))⟩
      rw [f2 i j hi hj, if_pos (by omega)]
    | succ d ih =>
      intro k ki m' v hd he hk f1 f2
      have e1 := f2 r k hr (by omega)
      have e2 := f2 c k hc (by omega)
      rw [if_neg (by omega)] at e1 e2
      refine y_238_2 ⟨(by unfold z_ok2; omega), (fun h => absurd h (by omega)), fun _ => ⟨⟨by omega, by omega⟩, ⟨by omega, by omega⟩, ⟨by omega, by omega⟩, ⟨by omega, by omega⟩, ?_⟩⟩
      rw [show ((23 : Int) * ri + ki).toNat = 23 * r + k by omega, show ((23 : Int) * ci + ki).toNat = 23 * c + k by omega, e1, e2]
      refine ih (k + 1) _ _ _ (by omega) (by omega) (by omega) ?_ ?_
      · intro a j ha
        rw [z_un (by omega), z_un (by omega)]
        exact f1 a j ha
      · intro i j hi hj
        by_cases hjk : j = k
        · subst hjk
          rw [if_pos (by omega)]
          unfold x_swp
          by_cases hic : i = c
          · rw [z_ue rfl (by omega)]
            by_cases hcr : i = r
            · rw [if_pos hcr, ← hcr, hic]
            · rw [if_neg hcr, if_pos hic]
          · rw [z_un (by omega)]
            by_cases hir : i = r
            · rw [z_ue rfl (by omega), if_pos hir]
            · rw [z_un (by omega), if_neg hir, if_neg hic, f2 i j hi hj, if_neg (by omega)]
        · rw [z_un (by omega), z_un (by omega), f2 i j hi hj]
          by_cases h2 : j < k
          · rw [if_pos h2, if_pos (by omega)]
          · rw [if_neg h2, if_neg (by omega)]
  refine y_238 (loop n 0 0 m _ rfl rfl (by omega) (fun _ _ _ => rfl) (fun i j hi hj => ?_))
  rw [if_neg (by omega)]
  exact hA i j hi hj
theorem n_clears {m : z_M} {g : z_g} {Q : q_V → q_S → Prop} {p : Int} {A : x_A} {c n : Nat} {ci fi ni : Int} (ec : ci = c) (ef : fi = (c : Int) + 1) (en : ni = n) (h : n_P m p) (hn : n ≤ 23) (hc : c < n) (hA : n_M m n A) (hR : x_MR p n A) (kk : ∀ m', (∀ a j, ¬ a = 144 → m' a j = m a j) → n_M m' n (x_clr p A c) → Q q_dead (z_st m' g)) : z_C 239 [.inr (.inr 131), .inl ci, .inl fi, .inl ni] (z_st m g) Q := by
  have hp := h.1
  have hp5 := z_pr_le hp
  have ecc := hR c c hc hc
  have hPm : ∀ m' : z_M, (∀ a j, ¬ a = 144 → m' a j = m a j) → n_P m' p := fun m' f => n_P_fr h ⟨f 131 1 (by omega), fun a j _ _ => f a j (by omega)⟩
  have hiv := z_inv_rng (x := A c c) hp
  have out : ∀ (d i : Nat) (ii : Int) (m' : z_M) (v6 v7 : q_V), n - i = d → ii = (i : Int) → c < i → i ≤ n → (∀ a j, ¬ a = 144 → m' a j = m a j) → (∀ a b, a < n → b < n → m' 144 (23 * a + b) = if a < i then x_clr p A c a b else A a b) → z_T 239 13 [.inr (.inr 131), .inl ci, .inl fi, .inl ni, .inl (z_inv p (A c c)), .inl ii, v6, v7] [] (z_st m' g) Q := by
    intro d
    induction d with
    | zero =>
      intro i ii m' v6 v7 hd he hci hi f1 f2
      refine y_239_13 ⟨(by unfold z_ok2; omega), fun _ => kk m' f1 fun a b ha hb => ?_, (fun h => absurd h (by omega))⟩
      rw [f2 a b ha hb, if_pos (by omega)]
    | succ d ih =>
      intro i ii m' v6 v7 hd he hci hi f1 f2
      have e3 : m' 144 (23 * i + c) = A i c := by rw [f2 i c (by omega) hc, if_neg (by omega)]
      have b1 := hR i c (by omega) hc
      have b2 : 0 ≤ A i c * z_inv p (A c c) ∧ A i c * z_inv p (A c c) ≤ 31 * 31 := ⟨Int.mul_nonneg (by omega) (by omega), Int.mul_le_mul (by omega) (by omega) (by omega) (by omega)⟩
      have b3 := z_m0 (p := p) (a := A i c * z_inv p (A c c)) (by omega)
      have inn : ∀ (d j : Nat) (ji : Int) (m' : z_M), n - j = d → ji = (j : Int) → c ≤ j → j ≤ n → (∀ a j, ¬ a = 144 → m' a j = m a j) → (∀ a b, a < n → b < n → m' 144 (23 * a + b) = if a < i ∨ (a = i ∧ b < j) then x_clr p A c a b else A a b) → z_T 239 32 [.inr (.inr 131), .inl ci, .inl fi, .inl ni, .inl (z_inv p (A c c)), .inl ii, .inl (A i c * z_inv p (A c c) % p), .inl ji] [] (z_st m' g) Q := by
        intro d2
        induction d2 with
        | zero =>
          intro j ji m' hd2 he2 hcj hj g1 g2
          refine y_239_32 ⟨(by unfold z_ok2; omega), fun _ => ih (i + 1) _ m' _ _ (by omega) (by omega) (by omega) (by omega) g1 fun a b ha hb => ?_, (fun h => absurd h (by omega))⟩
          rw [g2 a b ha hb]
          by_cases h : a < i + 1
          · rw [if_pos h, if_pos (by omega)]
          · rw [if_neg h, if_neg (by omega)]
        | succ d2 ih2 =>
          intro j ji m' hd2 he2 hcj hj g1 g2
          have e4 : m' 144 (23 * i + j) = A i j := by rw [g2 i j (by omega) (by omega), if_neg (by omega)]
          have e5 : m' 144 (23 * c + j) = A c j := by
            rw [g2 c j (by omega) (by omega), if_pos (by omega)]
            unfold x_clr
            rw [if_neg (by omega)]
          have b4 := hR i j (by omega) (by omega)
          have b5 := hR c j (by omega) (by omega)
          have b6 : 0 ≤ (A i c * z_inv p (A c c) % p) * A c j ∧ (A i c * z_inv p (A c c) % p) * A c j ≤ 31 * 31 := ⟨Int.mul_nonneg (by omega) (by omega), Int.mul_le_mul (by omega) (by omega) (by omega) (by omega)⟩
          refine y_239_32 ⟨(by unfold z_ok2; omega), (fun h => absurd h (by omega)), fun _ => ⟨⟨by omega, by omega⟩, ⟨by omega, by omega⟩, ?_⟩⟩
          rw [show ((23 : Int) * ii + ji).toNat = 23 * i + j by omega, show ((23 : Int) * ci + ji).toNat = 23 * c + j by omega, e4, e5]
          refine n_rest (hPm m' g1) (by unfold z_ok; omega) (y_239_63 ⟨⟨by omega, by omega⟩, ?_⟩)
          rw [show ((23 : Int) * ii + ji).toNat = 23 * i + j by omega]
          refine ih2 (j + 1) _ _ (by omega) (by omega) (by omega) (by omega) ?_ ?_
          · intro a b ha
            rw [z_un (by omega)]
            exact g1 a b ha
          · intro a b ha hb
            by_cases hh : a = i ∧ b = j
            · rw [z_ue rfl (by omega), if_pos (by omega), hh.1, hh.2]
              unfold x_clr
              rw [if_pos (by omega)]
            · rw [z_un (by omega), g2 a b ha hb]
              by_cases h2 : a < i ∨ (a = i ∧ b < j)
              · rw [if_pos h2, if_pos (by omega)]
              · rw [if_neg h2, if_neg (by omega)]
      refine y_239_13 ⟨(by unfold z_ok2; omega), (fun h => absurd h (by omega)), fun _ => ⟨⟨by omega, by omega⟩, ?_⟩⟩
      rw [show ((23 : Int) * ii + ci).toNat = 23 * i + c by omega, e3]
      refine n_p (hPm m' f1) (y_239_28 ⟨(by unfold z_dv; omega), ?_⟩)
      refine inn (n - c) c _ m' rfl ec (Nat.le_refl _) (by omega) f1 fun a b ha hb => ?_
      rw [f2 a b ha hb]
      by_cases h : a < i
      · rw [if_pos h, if_pos (by omega)]
      · rw [if_neg h]
        by_cases h2 : a < i ∨ (a = i ∧ b < c)
        · rw [if_pos h2]
          unfold x_clr
          rw [if_neg (by omega)]
        · rw [if_neg h2]
  refine y_239 ⟨⟨by omega, by omega⟩, ?_⟩
  rw [show ((23 : Int) * ci + ci).toNat = 23 * c + c by omega, hA c c hc hc]
  refine n_over h (by unfold z_ok; omega) (y_239_10 ?_)
  refine out (n - (c + 1)) (c + 1) _ m _ _ rfl (by omega) (by omega) (by omega) (fun _ _ _ => rfl) fun a b ha hb => ?_
  rw [hA a b ha hb]
  split
  · unfold x_clr
    rw [if_neg (by omega)]
  · rfl
theorem x_det_0 {p : Int} {n : Nat} : ∀ (d c : Nat) (A : x_A), x_det p n d c A 0 = 0
  | 0, _, _ => rfl
  | d + 1, c, A => by
    have h : (-(0 : Int)) % p = 0 := by rw [Int.neg_zero, Int.zero_emod]
    unfold x_det
    split
    · rfl
    · split
      · rw [Int.zero_mul, Int.zero_emod]; exact x_det_0 d _ _
      · rw [h, Int.zero_mul, Int.zero_emod]; exact x_det_0 d _ _
theorem n_determinant {m : z_M} {g : z_g} {Q : q_V → q_S → Prop} {p : Int} {A : x_A} {n : Nat} {ni : Int} (en : ni = n) (h : n_P m p) (hn : n ≤ 23) (hA : n_M m n A) (hR : x_MR p n A) (kk : ∀ m', (∀ a j, ¬ a = 144 → m' a j = m a j) → Q (.inl (x_det p n n 0 A 1)) (z_st m' g)) : z_C 237 [.inr (.inr 131), .inl ni] (z_st m g) Q := by
  have hp := h.1
  have hp5 := z_pr_le hp
  have hPm : ∀ m' : z_M, (∀ a j, ¬ a = 144 → m' a j = m a j) → n_P m' p := fun m' f => n_P_fr h ⟨f 131 1 (by omega), fun a j _ _ => f a j (by omega)⟩
  have loop : ∀ (d c : Nat) (ci is : Int) (A : x_A) (m' : z_M) (v : q_V), n - c = d → ci = (c : Int) → c ≤ n → 0 ≤ is → is < p → (∀ a j, ¬ a = 144 → m' a j = m a j) → n_M m' n A → x_MR p n A → (∀ m', (∀ a j, ¬ a = 144 → m' a j = m a j) → Q (.inl (x_det p n d c A is)) (z_st m' g)) → z_T 237 4 [.inr (.inr 131), .inl ni, .inl is, .inl ci, v] [] (z_st m' g) Q := by
    intro d
    induction d with
    | zero =>
      intro c ci is A m' v hd he hc i1 i2 f1 f2 f3 kk
      exact y_237_4 ⟨(by unfold z_ok2; omega), fun _ => kk m' f1, (fun h => absurd h (by omega))⟩
    | succ d ih =>
      intro c ci is A m' v hd he hc i1 i2 f1 f2 f3 kk
      refine y_237_4 ⟨(by unfold z_ok2; omega), (fun h => absurd h (by omega)), fun _ => ⟨(by unfold z_ok; omega), fun hz => ?_, fun hz => ?_⟩⟩
      · have k1 := kk m' f1
        rw [hz, x_det_0] at k1
        rw [hz]
        exact k1
      · unfold x_det at kk
        have tail : ∀ (m2 : z_M) (A2 : x_A) (is2 r2 : Int), 0 ≤ is2 → is2 < p → (∀ a j, ¬ a = 144 → m2 a j = m a j) → n_M m2 n A2 → x_MR p n A2 → (∀ m', (∀ a j, ¬ a = 144 → m' a j = m a j) → Q (.inl (x_det p n d (c + 1) (x_clr p A2 c) (is2 * A2 c c % p))) (z_st m' g)) → z_T 237 43 [.inr (.inr 131), .inl ni, .inl is2, .inl ci, .inl r2] [] (z_st m2 g) Q := by
          intro m2 A2 is2 r2 j1 j2 g1 g2 g3 kk
          have b1 := g3 c c (by omega) (by omega)
          have b2 : 0 ≤ is2 * A2 c c ∧ is2 * A2 c c ≤ 31 * 31 := ⟨Int.mul_nonneg (by omega) (by omega), Int.mul_le_mul (by omega) (by omega) (by omega) (by omega)⟩
          have b3 := z_m0 (p := p) (a := is2 * A2 c c) (by omega)
          refine y_237_43 ⟨⟨by omega, by omega⟩, ?_⟩
          rw [show ((23 : Int) * ci + ci).toNat = 23 * c + c by omega, g2 c c (by omega) (by omega)]
          refine n_p (hPm m2 g1) (y_237_55 ⟨(by unfold z_dv; omega), ?_⟩)
          refine n_clears (A := A2) (n := n) (c := c) he (by omega) en (hPm m2 g1) hn (by omega) g2 g3 fun m3 h1 h2 => y_237_64 ?_
          exact ih (c + 1) _ _ _ m3 _ (by omega) (by omega) (by omega) b3.1 b3.2 (fun a j ha => by rw [h1 a j ha, g1 a j ha]) h2 (x_clr_MR hp g3) kk
        -- the first row that isn't 0
        have found : ∀ (r : Nat) (ri : Int), ri = (r : Int) → c ≤ r → r < n → x_fst (fun i => decide (¬ A i c = 0)) (n - c) c = r → (z_ok2 ri ni ∧ (¬ ri = ni → z_ok2 ri ci ∧ (ri = ci → z_C 238 [.inr (.inr 131), .inl ri, .inl ci, .inl ni] (z_st m' g) (fun v S => z_T 237 43 [.inr (.inr 131), .inl ni, .inl is, .inl ci, .inl ri] (q_push v []) S Q)) ∧ (¬ ri = ci → z_C 215 [.inr (.inr 131), .inl (-is)] (z_st m' g) (fun v S => z_T 237 37 [.inr (.inr 131), .inl ni, .inl is, .inl ci, .inl ri] (q_push v []) S Q))) ∧ (ri = ni → Q (.inl 0) (z_st m' g))) := by
          intro r ri eri hcr hrn hx
          rw [hx, if_neg (by omega)] at kk
          refine ⟨(by unfold z_ok2; omega), fun _ => ⟨(by unfold z_ok2; omega), fun hrc => ?_, fun hrc => ?_⟩, (fun h => absurd h (by omega))⟩
          · rw [if_pos (by omega)] at kk
            refine n_trades (A := A) (r := r) (c := c) (w := 0) eri he en hrn (by omega) hn f2 fun m2 g1 g2 => ?_
            have es : x_swp A r c = A := by
              funext i j
              unfold x_swp
              have : r = c := by omega
              subst this
              split
              · rename_i hh; rw [hh]
              · rfl
            rw [es] at g2
            exact tail m2 A is _ i1 i2 (fun a j ha => by rw [g1 a j ha, f1 a j ha]) g2 f3 kk
          · rw [if_neg (by omega)] at kk
            have b3 := z_m0 (p := p) (a := -is) (by omega)
            refine n_rest (hPm m' f1) (by unfold z_ok; omega) (y_237_37 ?_)
            refine n_trades (A := A) (r := r) (c := c) (w := 0) eri he en hrn (by omega) hn f2 fun m2 g1 g2 => ?_
            exact tail m2 (x_swp A r c) _ _ b3.1 b3.2 (fun a j ha => by rw [g1 a j ha, f1 a j ha]) g2 (x_swp_MR hrn (by omega) f3) kk
        have look : ∀ (e r : Nat) (ri : Int), n - r = e → ri = (r : Int) → c ≤ r → r ≤ n → x_fst (fun i => decide (¬ A i c = 0)) (n - c) c = x_fst (fun i => decide (¬ A i c = 0)) e r → z_T 237 11 [.inr (.inr 131), .inl ni, .inl is, .inl ci, .inl ri] [] (z_st m' g) Q := by
          intro e
          induction e with
          | zero =>
            intro r ri hd2 he2 h1 h2 hx
            have hx : x_fst (fun i => decide (¬ A i c = 0)) (n - c) c = r := hx
            rw [hx, if_pos (by omega)] at kk
            exact y_237_11 ⟨(by unfold z_ok2; omega), fun _ => ⟨(by unfold z_ok2; omega), fun hne => absurd (show ri = ni by omega) hne, fun _ => kk m' f1⟩, (fun h => absurd h (by omega))⟩
          | succ e ih2 =>
            intro r ri hd2 he2 h1 h2 hx
            have b1 := f3 r c (by omega) (by omega)
            refine y_237_11 ⟨(by unfold z_ok2; omega), (fun h => absurd h (by omega)), fun _ => ⟨⟨by omega, by omega⟩, ?_⟩⟩
            rw [show ((23 : Int) * ri + ci).toNat = 23 * r + c by omega, f2 r c (by omega) (by omega)]
            rw [x_fst_s] at hx
            refine ⟨(by unfold z_ok; omega), fun hne => ?_, fun heq => ?_⟩
            · rw [if_pos (by simp [hne])] at hx
              exact found r ri he2 h1 (by omega) hx
            · rw [if_neg (by simp [heq])] at hx
              exact ih2 (r + 1) _ (by omega) (by omega) (by omega) (by omega) hx
        exact look (n - c) c _ rfl he (Nat.le_refl _) hc rfl
  exact y_237 (loop n 0 0 1 A m _ rfl rfl (by omega) (by decide) (by omega) (fun _ _ _ => rfl) hA hR kk)
/-- the resultant -/
def r_res (p : Int) (S : Nat) (N : Nat → Int) : Int := x_det p (2 * (x_at S (x_many S - 1) - x_at S 0) - 1) (2 * (x_at S (x_many S - 1) - x_at S 0) - 1) 0 (x_cell (l_N S N) (l_D p (l_N S N)) (x_at S (x_many S - 1) - x_at S 0)) 1
def n_mat (m m' : z_M) : Prop := ∀ a j, (a < 140 ∨ 141 < a) → ¬ a = 144 → ¬ (a = 131 ∧ (j = 16 ∨ j = 18)) → m' a j = m a j
theorem n_resultantOf {m : z_M} {g : z_g} {Q : q_V → q_S → Prop} {s p : Int} {S : Nat} {kd fg : Int} {T : Nat → Int} (h : n_S m s p S kd fg T) (kk : ∀ m', n_mat m m' → Q (.inl (r_res p S (n_at p S kd fg T))) (z_st m' g)) : z_C 236 [.inr (.inr 131), .inl s] (z_st m g) Q := by
  have hS := h.2.2.2.2.1
  have hP := h.1
  have h2 := hS.2.1
  have hl := x_at_le (S := S) (k := x_many S - 1) (by omega)
  refine y_236 (n_fills h fun m1 f1 f2 f3 => y_236_3 ?_)
  refine n_determinant (n := 2 * (x_at S (x_many S - 1) - x_at S 0) - 1) f2 (n_P_fr hP ⟨f1 131 1 (by omega) (by omega) (by omega), fun a j _ _ => f1 a j (by omega) (by omega) (by omega)⟩) (by omega) f3 (x_cell_MR (n := 0) hP.1 (l_N_R (n_at_N hP.1)) (l_D_R hP.1) (by omega)) fun m2 g1 => y_236_7 (kk m2 ?_)
  intro a j h1 h2 h3
  rw [g1 a j h2]
  exact f1 a j h1 h2 h3
