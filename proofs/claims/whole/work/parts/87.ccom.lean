/-! PURE: what two rows have in common; CONTRACTS of the class for it -/
def x_r1 (p : Int) (B : Nat → Int) (t : Nat) (iv : Int) (d : Nat) (A : Nat → Int) : Nat → Int := fun j => if d - t ≤ j ∧ j ≤ d then (A j - (A d * iv % p) * B (j - (d - t))) % p else A j
def x_rd (p : Int) (B : Nat → Int) (t : Nat) (iv : Int) : Nat → (Nat → Int) → Nat → Int
  | 0, A => A
  | n + 1, A => x_rd p B t iv n (x_r1 p B t iv (t + n) A)
theorem x_r1_R {p iv : Int} {A B : Nat → Int} {t d : Nat} (hp : z_pr p) (hA : x_R p A) : x_R p (x_r1 p B t iv d A) := fun i hi => by
  have hp5 := z_pr_le hp
  unfold x_r1
  split
  · exact z_m0 (by omega)
  · exact hA i hi
theorem x_rd_R {p iv : Int} {B : Nat → Int} {t : Nat} (hp : z_pr p) : ∀ (n : Nat) (A : Nat → Int), x_R p A → x_R p (x_rd p B t iv n A)
  | 0, _, h => h
  | n + 1, A, h => x_rd_R hp n _ (x_r1_R hp h)
theorem x_r1_id {p iv : Int} {A B : Nat → Int} {t d : Nat} (hd : d < 13) (hA : x_R p A) (h0 : A d = 0) : x_r1 p B t iv d A = A := by
  funext j
  unfold x_r1
  by_cases h : d - t ≤ j ∧ j ≤ d
  · rw [if_pos h, h0, Int.zero_mul, Int.zero_emod, Int.zero_mul, Int.sub_zero]
    have := hA j (by omega)
    exact z_mi this.1 this.2
  · rw [if_neg h]
theorem x_rd_skip {p iv : Int} {B : Nat → Int} {t k : Nat} {A : Nat → Int} (hA : x_R p A) : ∀ n : Nat, k ≤ n → t + n ≤ 13 → (∀ d, t + k ≤ d → d < 13 → A d = 0) → x_rd p B t iv n A = x_rd p B t iv k A
  | 0, h, _, _ => by
    obtain rfl : k = 0 := by omega
    rfl
  | n + 1, h, ht, hz => by
    by_cases hk : k = n + 1
    · rw [hk]
    · show x_rd p B t iv n (x_r1 p B t iv (t + n) A) = _
      rw [x_r1_id (by omega) hA (hz (t + n) (by omega) (by omega))]
      exact x_rd_skip hA n (by omega) (by omega) hz
/-- A less as often B as it goes -/
def x_red (p : Int) (A B : Nat → Int) : Nat → Int := x_rd p B (x_top B 13).toNat (z_inv p (B (x_top B 13).toNat)) (13 - (x_top B 13).toNat) A
theorem x_red_R {p : Int} {A B : Nat → Int} (hp : z_pr p) (hA : x_R p A) : x_R p (x_red p A B) := x_rd_R hp _ _ hA
theorem x_rd_zero {p : Int} {B : Nat → Int} {t : Nat} (hp : z_pr p) (ht : t < 13) (hB : x_R p B) (h0 : ¬ B t = 0) : ∀ (n : Nat) (A : Nat → Int), t + n ≤ 13 → x_R p A → (∀ j, t + n ≤ j → j < 13 → A j = 0) → ∀ j, t ≤ j → j < 13 → x_rd p B t (z_inv p (B t)) n A j = 0
  | 0, A, _, _, hz, j, h1, h2 => hz j (by omega) h2
  | n + 1, A, hn, hA, hz, j, h1, h2 => by
    refine x_rd_zero hp ht hB h0 n _ (by omega) (x_r1_R hp hA) (fun i h3 h4 => ?_) j h1 h2
    unfold x_r1
    have hp5 := z_pr_le hp
    by_cases hi : i = t + n
    · rw [hi, if_pos (by omega), show t + n - (t + n - t) = t by omega]
      have hb := hB t ht
      have hone := (z_inv_one hp (x := B t) (by omega) hb.2).1
      have e : (A (t + n) * z_inv p (B t) % p * B t) % p = A (t + n) % p := by
        have e1 : (A (t + n) * z_inv p (B t) % p * B t) % p = (A (t + n) * (B t * z_inv p (B t))) % p := by
          rw [z_mmul (b := A (t + n) * z_inv p (B t)) (d := B t) z_mm rfl]
          congr 1
          grind
        rw [e1, z_mmul (b := A (t + n)) (d := 1) rfl (by rw [hone]; exact (z_mi (by omega) (by omega)).symm), Int.mul_one]
      rw [z_msub (b := A (t + n)) (d := A (t + n)) rfl e, Int.sub_self]
      rfl
    · rw [if_neg (by omega)]
      exact hz i (by omega) h4
theorem x_red_top {p : Int} {A B : Nat → Int} (hp : z_pr p) (hA : x_R p A) (hB : x_R p B) (ht : 0 ≤ x_top B 13) : x_top (x_red p A B) 13 < x_top B 13 := by
  have hr := x_top_rng B 13
  have h0 := x_top_nz ht
  have hz := x_rd_zero (B := B) (t := (x_top B 13).toNat) hp (by omega) hB h0 (13 - (x_top B 13).toNat) A (by omega) hA (fun j h1 h2 => by omega)
  have hr2 := x_top_rng (x_red p A B) 13
  by_cases h : x_top (x_red p A B) 13 < x_top B 13
  · exact h
  · have h3 := x_top_nz (f := x_red p A B) (n := 13) (by omega)
    exact absurd (hz (x_top (x_red p A B) 13).toNat (by omega) (by omega)) h3
def x_gcd (p : Int) : Nat → (Nat → Int) → (Nat → Int) → Nat → Int
  | 0, A, _ => A
  | n + 1, A, B => if x_top B 13 < 0 then A else x_gcd p n B (x_red p A B)
theorem x_gcd_R {p : Int} (hp : z_pr p) : ∀ (n : Nat) (A B : Nat → Int), x_R p A → x_R p B → x_R p (x_gcd p n A B)
  | 0, _, _, h, _ => h
  | n + 1, A, B, h, h2 => by
    unfold x_gcd
    split
    · exact h
    · exact x_gcd_R hp n B _ h2 (x_red_R hp h)
def r_G (p : Int) (L : Nat → Int) : Nat → Int := x_gcd p 14 L (l_D p L)
def r_C (p : Int) (L : Nat → Int) : Nat → Int := fun i => (r_G p L i * (if x_top (r_G p L) 13 < 0 then 0 else z_inv p (r_G p L (x_top (r_G p L) 13).toNat))) % p
theorem l_D_R {p : Int} {L : Nat → Int} (hp : z_pr p) : x_R p (l_D p L) := fun i _ => z_m0 (by have := z_pr_le hp; omega)
theorem c_reduce_a {m : z_M} {g : z_g} {Q : q_V → q_S → Prop} {p : Int} {A B : Nat → Int} (hF : t_F m p) (hA : t_R m 73 A) (hB : t_R m 74 B) (rA : x_R p A) (rB : x_R p B) (ht : 0 ≤ x_top B 13) (kk : ∀ m', (∀ a j, ¬ a = 73 → m' a j = m a j) → t_R m' 73 (x_red p A B) → Q q_dead (z_st m' g)) : z_C 71 [.inr (.inr 70), .inr (.inr 73), .inr (.inr 74)] (z_st m g) Q := by
  have hp := hF.1
  have hp5 := z_pr_le hp
  have hr := x_top_rng B 13
  obtain ⟨t, et⟩ := Int.eq_ofNat_of_zero_le ht
  have hbt := rB t (by omega)
  have hiv := z_inv_rng (x := B t) hp
  have hra := x_top_rng A 13
  have hFm : ∀ m' : z_M, (∀ a j, ¬ a = 73 → m' a j = m a j) → m' 29 0 = p := fun m' f => by rw [f 29 0 (by omega)]; exact hF.2.1
  -- one power after the other, from the highest on
  have out : ∀ (n : Nat) (i : Int) (A' : Nat → Int) (m' : z_M) (v6 v7 : q_V), i = (t : Int) + (n : Int) - 1 → t + n ≤ 13 → (∀ a j, ¬ a = 73 → m' a j = m a j) → t_R m' 73 A' → x_R p A' → x_rd p B t (z_inv p (B t)) n A' = x_red p A B → z_T 71 16 [.inr (.inr 70), .inr (.inr 73), .inr (.inr 74), .inl (t : Int), .inl (z_inv p (B t)), .inl i, v6, v7] [] (z_st m' g) Q := by
    intro n
    induction n with
    | zero =>
      intro i A' m' v6 v7 hi hn f1 f2 f3 hx
      refine y_71a_16 ⟨(by unfold z_ok2; omega), fun _ => kk m' f1 ?_, (fun h => absurd h (by omega))⟩
      rw [← hx]
      exact f2
    | succ n ih =>
      intro i A' m' v6 v7 hi hn f1 f2 f3 hx
      have ed : t + n - t = n := by omega
      have b1 := f3 (t + n) (by omega)
      have b2 : 0 ≤ A' (t + n) * z_inv p (B t) ∧ A' (t + n) * z_inv p (B t) ≤ 31 * 31 := ⟨Int.mul_nonneg (by omega) (by omega), Int.mul_le_mul (by omega) (by omega) (by omega) (by omega)⟩
      have b3 := z_m0 (p := p) (a := A' (t + n) * z_inv p (B t)) (by omega)
      have inn : ∀ (d k : Nat) (ki : Int) (m' : z_M), t + 1 - k = d → ki = (k : Int) → k ≤ t + 1 → (∀ a j, ¬ a = 73 → m' a j = m a j) → (∀ j, j < 13 → m' 73 j = if j < n + k then x_r1 p B t (z_inv p (B t)) (t + n) A' j else A' j) → z_T 71 29 [.inr (.inr 70), .inr (.inr 73), .inr (.inr 74), .inl (t : Int), .inl (z_inv p (B t)), .inl i, .inl (A' (t + n) * z_inv p (B t) % p), .inl ki] [] (z_st m' g) Q := by
        intro d
        induction d with
        | zero =>
          intro k ki m' hd he hk g1 g2
          refine y_71a_29 ⟨(by unfold z_ok2; omega), fun _ => ?_, (fun h => absurd h (by omega))⟩
          refine ih _ (x_r1 p B t (z_inv p (B t)) (t + n) A') m' _ _ (by omega) (by omega) g1 (fun j hj => ?_) (x_r1_R hp f3) hx
          rw [g2 j hj]
          by_cases h : j < n + k
          · rw [if_pos h]
          · rw [if_neg h]
            unfold x_r1
            rw [if_neg (by omega)]
        | succ d ih2 =>
          intro k ki m' hd he hk g1 g2
          have e1 : m' 73 (n + k) = A' (n + k) := by rw [g2 (n + k) (by omega), if_neg (by omega)]
          have e2 : m' 74 k = B k := by rw [g1 74 k (by omega)]; exact hB k (by omega)
          have b4 := f3 (n + k) (by omega)
          have b5 := rB k (by omega)
          have b6 : 0 ≤ (A' (t + n) * z_inv p (B t) % p) * B k ∧ (A' (t + n) * z_inv p (B t) % p) * B k ≤ 31 * 31 := ⟨Int.mul_nonneg (by omega) (by omega), Int.mul_le_mul (by omega) (by omega) (by omega) (by omega)⟩
          refine y_71a_29 ⟨(by unfold z_ok2; omega), (fun h => absurd h (by omega)), fun _ => ⟨⟨by omega, by omega⟩, ⟨by omega, by omega⟩, ?_⟩⟩
          rw [show (i - (t : Int) + ki).toNat = n + k by omega, show ki.toNat = k by omega, e1, e2]
          refine c_mod' hp (hFm m' g1) (by unfold z_ok; omega) (y_71a_54 ⟨⟨by omega, by omega⟩, ?_⟩)
          rw [show (i - (t : Int) + ki).toNat = n + k by omega]
          refine ih2 (k + 1) _ _ (by omega) (by omega) (by omega) ?_ ?_
          · intro a j ha
            rw [z_un (by omega)]
            exact g1 a j ha
          · intro j hj
            by_cases hjk : j = n + k
            · rw [z_ue rfl hjk, if_pos (by omega), hjk]
              unfold x_r1
              rw [if_pos (by omega), show n + k - (t + n - t) = k by omega]
            · rw [z_un (by omega), g2 j hj]
              by_cases h : j < n + k
              · rw [if_pos h, if_pos (by omega)]
              · rw [if_neg h, if_neg (by omega)]
      refine y_71a_16 ⟨(by unfold z_ok2; omega), (fun h => absurd h (by omega)), fun _ => ⟨⟨by omega, by omega⟩, ?_⟩⟩
      rw [show i.toNat = t + n by omega, f2 (t + n) (by omega)]
      refine c_product hp (hFm m' f1) (by unfold z_ok; omega) (y_71a_26 ?_)
      refine inn (t + 1) 0 0 m' rfl rfl (by omega) f1 fun j hj => ?_
      rw [f2 j hj]
      by_cases h : j < n + 0
      · rw [if_pos h]
        unfold x_r1
        rw [if_neg (by omega)]
      · rw [if_neg h]
  refine y_71a (c_topOf_b hp hB rB (y_71a_2 ⟨(by unfold z_ok; omega), fun _ => ⟨⟨by omega, by omega⟩, ?_⟩, (fun h => absurd h (by omega))⟩))
  rw [et, show ((t : Int)).toNat = t by omega, hB t (by omega)]
  refine c_over hF hbt.1 hbt.2 (y_71a_12 (c_topOf_a hp hA rA (y_71a_15 ?_)))
  have hred : x_red p A B = x_rd p B t (z_inv p (B t)) (13 - t) A := by
    unfold x_red
    rw [et]
    rfl
  by_cases hlt : x_top A 13 < t
  · -- nothing to take off
    have e0 : x_rd p B t (z_inv p (B t)) (13 - t) A = A := x_rd_skip (k := 0) rA (13 - t) (by omega) (by omega) (fun d h1 h2 => x_top_zero h2 (by omega))
    refine y_71a_16 ⟨(by unfold z_ok2; omega), fun _ => kk m (fun _ _ _ => rfl) ?_, (fun h => absurd h (by omega))⟩
    rw [hred, e0]
    exact hA
  · refine out ((x_top A 13).toNat + 1 - t) _ A m _ _ (by omega) (by omega) (fun _ _ _ => rfl) hA rA ?_
    rw [hred]
    exact (x_rd_skip rA (13 - t) (by omega) (by omega) (fun d h1 h2 => x_top_zero h2 (by omega))).symm
theorem c_reduce_b {m : z_M} {g : z_g} {Q : q_V → q_S → Prop} {p : Int} {A B : Nat → Int} (hF : t_F m p) (hA : t_R m 74 A) (hB : t_R m 73 B) (rA : x_R p A) (rB : x_R p B) (ht : 0 ≤ x_top B 13) (kk : ∀ m', (∀ a j, ¬ a = 74 → m' a j = m a j) → t_R m' 74 (x_red p A B) → Q q_dead (z_st m' g)) : z_C 71 [.inr (.inr 70), .inr (.inr 74), .inr (.inr 73)] (z_st m g) Q := by
  have hp := hF.1
  have hp5 := z_pr_le hp
  have hr := x_top_rng B 13
  obtain ⟨t, et⟩ := Int.eq_ofNat_of_zero_le ht
  have hbt := rB t (by omega)
  have hiv := z_inv_rng (x := B t) hp
  have hra := x_top_rng A 13
  have hFm : ∀ m' : z_M, (∀ a j, ¬ a = 74 → m' a j = m a j) → m' 29 0 = p := fun m' f => by rw [f 29 0 (by omega)]; exact hF.2.1
  -- one power after the other, from the highest on
  have out : ∀ (n : Nat) (i : Int) (A' : Nat → Int) (m' : z_M) (v6 v7 : q_V), i = (t : Int) + (n : Int) - 1 → t + n ≤ 13 → (∀ a j, ¬ a = 74 → m' a j = m a j) → t_R m' 74 A' → x_R p A' → x_rd p B t (z_inv p (B t)) n A' = x_red p A B → z_T 71 16 [.inr (.inr 70), .inr (.inr 74), .inr (.inr 73), .inl (t : Int), .inl (z_inv p (B t)), .inl i, v6, v7] [] (z_st m' g) Q := by
    intro n
    induction n with
    | zero =>
      intro i A' m' v6 v7 hi hn f1 f2 f3 hx
      refine y_71b_16 ⟨(by unfold z_ok2; omega), fun _ => kk m' f1 ?_, (fun h => absurd h (by omega))⟩
      rw [← hx]
      exact f2
    | succ n ih =>
      intro i A' m' v6 v7 hi hn f1 f2 f3 hx
      have ed : t + n - t = n := by omega
      have b1 := f3 (t + n) (by omega)
      have b2 : 0 ≤ A' (t + n) * z_inv p (B t) ∧ A' (t + n) * z_inv p (B t) ≤ 31 * 31 := ⟨Int.mul_nonneg (by omega) (by omega), Int.mul_le_mul (by omega) (by omega) (by omega) (by omega)⟩
      have b3 := z_m0 (p := p) (a := A' (t + n) * z_inv p (B t)) (by omega)
      have inn : ∀ (d k : Nat) (ki : Int) (m' : z_M), t + 1 - k = d → ki = (k : Int) → k ≤ t + 1 → (∀ a j, ¬ a = 74 → m' a j = m a j) → (∀ j, j < 13 → m' 74 j = if j < n + k then x_r1 p B t (z_inv p (B t)) (t + n) A' j else A' j) → z_T 71 29 [.inr (.inr 70), .inr (.inr 74), .inr (.inr 73), .inl (t : Int), .inl (z_inv p (B t)), .inl i, .inl (A' (t + n) * z_inv p (B t) % p), .inl ki] [] (z_st m' g) Q := by
        intro d
        induction d with
        | zero =>
          intro k ki m' hd he hk g1 g2
          refine y_71b_29 ⟨(by unfold z_ok2; omega), fun _ => ?_, (fun h => absurd h (by omega))⟩
          refine ih _ (x_r1 p B t (z_inv p (B t)) (t + n) A') m' _ _ (by omega) (by omega) g1 (fun j hj => ?_) (x_r1_R hp f3) hx
          rw [g2 j hj]
          by_cases h : j < n + k
          · rw [if_pos h]
          · rw [if_neg h]
            unfold x_r1
            rw [if_neg (by omega)]
        | succ d ih2 =>
          intro k ki m' hd he hk g1 g2
          have e1 : m' 74 (n + k) = A' (n + k) := by rw [g2 (n + k) (by omega), if_neg (by omega)]
          have e2 : m' 73 k = B k := by rw [g1 73 k (by omega)]; exact hB k (by omega)
          have b4 := f3 (n + k) (by omega)
          have b5 := rB k (by omega)
          have b6 : 0 ≤ (A' (t + n) * z_inv p (B t) % p) * B k ∧ (A' (t + n) * z_inv p (B t) % p) * B k ≤ 31 * 31 := ⟨Int.mul_nonneg (by omega) (by omega), Int.mul_le_mul (by omega) (by omega) (by omega) (by omega)⟩
          refine y_71b_29 ⟨(by unfold z_ok2; omega), (fun h => absurd h (by omega)), fun _ => ⟨⟨by omega, by omega⟩, ⟨by omega, by omega⟩, ?_⟩⟩
          rw [show (i - (t : Int) + ki).toNat = n + k by omega, show ki.toNat = k by omega, e1, e2]
          refine c_mod' hp (hFm m' g1) (by unfold z_ok; omega) (y_71b_54 ⟨⟨by omega, by omega⟩, ?_⟩)
          rw [show (i - (t : Int) + ki).toNat = n + k by omega]
          refine ih2 (k + 1) _ _ (by omega) (by omega) (by omega) ?_ ?_
          · intro a j ha
            rw [z_un (by omega)]
            exact g1 a j ha
          · intro j hj
            by_cases hjk : j = n + k
            · rw [z_ue rfl hjk, if_pos (by omega), hjk]
              unfold x_r1
              rw [if_pos (by omega), show n + k - (t + n - t) = k by omega]
            · rw [z_un (by omega), g2 j hj]
              by_cases h : j < n + k
              · rw [if_pos h, if_pos (by omega)]
              · rw [if_neg h, if_neg (by omega)]
      refine y_71b_16 ⟨(by unfold z_ok2; omega), (fun h => absurd h (by omega)), fun _ => ⟨⟨by omega, by omega⟩, ?_⟩⟩
      rw [show i.toNat = t + n by omega, f2 (t + n) (by omega)]
      refine c_product hp (hFm m' f1) (by unfold z_ok; omega) (y_71b_26 ?_)
      refine inn (t + 1) 0 0 m' rfl rfl (by omega) f1 fun j hj => ?_
      rw [f2 j hj]
      by_cases h : j < n + 0
      · rw [if_pos h]
        unfold x_r1
        rw [if_neg (by omega)]
      · rw [if_neg h]
  refine y_71b (c_topOf_a hp hB rB (y_71b_2 ⟨(by unfold z_ok; omega), fun _ => ⟨⟨by omega, by omega⟩, ?_⟩, (fun h => absurd h (by omega))⟩))
  rw [et, show ((t : Int)).toNat = t by omega, hB t (by omega)]
  refine c_over hF hbt.1 hbt.2 (y_71b_12 (c_topOf_b hp hA rA (y_71b_15 ?_)))
  have hred : x_red p A B = x_rd p B t (z_inv p (B t)) (13 - t) A := by
    unfold x_red
    rw [et]
    rfl
  by_cases hlt : x_top A 13 < t
  · -- nothing to take off
    have e0 : x_rd p B t (z_inv p (B t)) (13 - t) A = A := x_rd_skip (k := 0) rA (13 - t) (by omega) (by omega) (fun d h1 h2 => x_top_zero h2 (by omega))
    refine y_71b_16 ⟨(by unfold z_ok2; omega), fun _ => kk m (fun _ _ _ => rfl) ?_, (fun h => absurd h (by omega))⟩
    rw [hred, e0]
    exact hA
  · refine out ((x_top A 13).toNat + 1 - t) _ A m _ _ (by omega) (by omega) (fun _ _ _ => rfl) hA rA ?_
    rw [hred]
    exact (x_rd_skip rA (13 - t) (by omega) (by omega) (fun d h1 h2 => x_top_zero h2 (by omega))).symm
theorem c_findCommon {m : z_M} {g : z_g} {Q : q_V → q_S → Prop} {p : Int} {L : Nat → Int} (hF : t_F m p) (hL : t_R m 71 L) (hD : t_R m 72 (l_D p L)) (rL : x_R p L) (kk : ∀ m', (∀ a j, (a < 73 ∨ 74 < a) → ¬ (a = 70 ∧ j = 6) → m' a j = m a j) → m' 70 6 = x_top (r_G p L) 13 → t_R m' 73 (r_C p L) → Q q_dead (z_st m' g)) : z_C 69 [.inr (.inr 70)] (z_st m g) Q := by
  have hp := hF.1
  have hp5 := z_pr_le hp
  have hFm : ∀ m' : z_M, (∀ a j, (a < 73 ∨ 74 < a) → ¬ (a = 70 ∧ j = 6) → m' a j = m a j) → t_F m' p := fun m' f => ⟨hp, by rw [f 29 0 (by omega) (by omega)]; exact hF.2.1, fun x e hx he => by rw [f (31 + x) e (by omega) (by omega)]; exact hF.2.2.1 x e hx he, fun x hx => by rw [f 62 x (by omega) (by omega)]; exact hF.2.2.2 x hx⟩
  have rG : x_R p (r_G p L) := x_gcd_R hp 14 L _ rL (l_D_R hp)
  have hrG := x_top_rng (r_G p L) 13
  obtain ⟨G, eG⟩ : ∃ G, r_G p L = G := ⟨_, rfl⟩
  obtain ⟨fc, efc⟩ : ∃ fc, (if x_top G 13 < 0 then 0 else z_inv p (G (x_top G 13).toNat)) = fc := ⟨_, rfl⟩
  have hC : ∀ i, r_C p L i = (G i * fc) % p := fun i => by unfold r_C; rw [eG, efc]
  rw [eG] at kk rG hrG
  have hfc : 0 ≤ fc ∧ fc < p := by
    rw [← efc]
    split
    · omega
    · exact z_inv_rng hp
  -- the highest one becomes 1
  have last73 : ∀ (d i : Nat) (ii : Int) (m' : z_M), 13 - i = d → ii = (i : Int) → i ≤ 13 → (∀ a j, (a < 73 ∨ 74 < a) → ¬ (a = 70 ∧ j = 6) → m' a j = m a j) → m' 70 6 = x_top G 13 → (∀ j, i ≤ j → j < 13 → m' 73 j = G j) → (∀ j, j < i → m' 73 j = r_C p L j) → z_T 69 65 [.inr (.inr 70), .inr (.inr 73), .inr (.inr 74), .inl fc, .inl ii] [] (z_st m' g) Q := by
    intro d
    induction d with
    | zero =>
      intro i ii m' hd he hi f1 f2 f3 f4
      exact y_69_65 ⟨(by unfold z_ok2; omega), fun _ => kk m' f1 f2 fun j hj => f4 j (by omega), (fun h => absurd h (by omega))⟩
    | succ d ih =>
      intro i ii m' hd he hi f1 f2 f3 f4
      have b1 := rG i (by omega)
      have b2 : 0 ≤ G i * fc ∧ G i * fc ≤ 31 * 31 := ⟨Int.mul_nonneg (by omega) (by omega), Int.mul_le_mul (by omega) (by omega) (by omega) (by omega)⟩
      refine y_69_65 ⟨(by unfold z_ok2; omega), (fun h => absurd h (by omega)), fun _ => ⟨by decide, ⟨by decide, rfl⟩, ⟨by omega, by omega⟩, ?_⟩⟩
      rw [show ii.toNat = i by omega, f3 i (Nat.le_refl _) (by omega)]
      refine c_product hp (hFm m' f1).2.1 (by unfold z_ok; omega) (y_69_80 ⟨⟨by omega, by omega⟩, ?_⟩)
      rw [show ii.toNat = i by omega]
      refine ih (i + 1) _ _ (by omega) (by omega) (by omega) ?_ ?_ ?_ ?_
      · intro a j h1 h2
        rw [z_un (by omega)]
        exact f1 a j h1 h2
      · rw [z_un (by omega)]
        exact f2
      · intro j h1 h2
        rw [z_un (by omega)]
        exact f3 j (by omega) h2
      · intro j hj
        by_cases hji : j = i
        · rw [z_ue rfl hji, hji, hC]
        · rw [z_un (by omega)]
          exact f4 j (by omega)
  have mid73 : ∀ (a3 : Int) (v : q_V) (m' : z_M), (∀ a j, (a < 73 ∨ 74 < a) → ¬ (a = 70 ∧ j = 6) → m' a j = m a j) → t_R m' 73 G → z_C 70 [.inr (.inr 73)] (z_st m' g) (fun w S => z_T 69 49 [.inr (.inr 70), .inr (.inr 73), .inr (.inr 74), .inl a3, v] (q_push w [.inr (.inr 70)]) S Q) := fun a3 v m' f1 f2 => by
    refine c_topOf_a hp f2 rG (y_69_49 ?_)
    have f1' : ∀ a j, (a < 73 ∨ 74 < a) → ¬ (a = 70 ∧ j = 6) → (q_upd m' 70 6 (x_top G 13)) a j = m a j := fun a j h1 h2 => by rw [z_un h2]; exact f1 a j h1 h2
    have f2' : ∀ j, 0 ≤ j → j < 13 → (q_upd m' 70 6 (x_top G 13)) 73 j = G j := fun j _ hj => by rw [z_un (by omega)]; exact f2 j hj
    refine ⟨(by unfold z_ok; omega), fun h0 => ⟨by decide, ⟨by decide, rfl⟩, ⟨by omega, by omega⟩, ?_⟩, fun h0 => y_69_62 ?_⟩
    · have b1 := rG (x_top G 13).toNat (by omega)
      rw [f2' _ (by omega) (by omega)]
      refine c_over (hFm _ f1') b1.1 b1.2 (y_69_62 ?_)
      have e : z_inv p (G (x_top G 13).toNat) = fc := by rw [← efc, if_neg (by omega)]
      rw [e]
      exact last73 13 0 0 _ rfl rfl (by omega) f1' (z_ue rfl rfl) f2' (fun j hj => by omega)
    · have e : (0 : Int) = fc := by rw [← efc, if_pos h0]
      rw [e]
      exact last73 13 0 _ _ rfl (by rw [← e]; rfl) (by omega) f1' (z_ue rfl rfl) f2' (fun j hj => by omega)
  have last74 : ∀ (d i : Nat) (ii : Int) (m' : z_M), 13 - i = d → ii = (i : Int) → i ≤ 13 → (∀ a j, (a < 73 ∨ 74 < a) → ¬ (a = 70 ∧ j = 6) → m' a j = m a j) → m' 70 6 = x_top G 13 → (∀ j, i ≤ j → j < 13 → m' 74 j = G j) → (∀ j, j < i → m' 73 j = r_C p L j) → z_T 69 65 [.inr (.inr 70), .inr (.inr 74), .inr (.inr 73), .inl fc, .inl ii] [] (z_st m' g) Q := by
    intro d
    induction d with
    | zero =>
      intro i ii m' hd he hi f1 f2 f3 f4
      exact y_69_65 ⟨(by unfold z_ok2; omega), fun _ => kk m' f1 f2 fun j hj => f4 j (by omega), (fun h => absurd h (by omega))⟩
    | succ d ih =>
      intro i ii m' hd he hi f1 f2 f3 f4
      have b1 := rG i (by omega)
      have b2 : 0 ≤ G i * fc ∧ G i * fc ≤ 31 * 31 := ⟨Int.mul_nonneg (by omega) (by omega), Int.mul_le_mul (by omega) (by omega) (by omega) (by omega)⟩
      refine y_69_65 ⟨(by unfold z_ok2; omega), (fun h => absurd h (by omega)), fun _ => ⟨by decide, ⟨by decide, rfl⟩, ⟨by omega, by omega⟩, ?_⟩⟩
      rw [show ii.toNat = i by omega, f3 i (Nat.le_refl _) (by omega)]
      refine c_product hp (hFm m' f1).2.1 (by unfold z_ok; omega) (y_69_80 ⟨⟨by omega, by omega⟩, ?_⟩)
      rw [show ii.toNat = i by omega]
      refine ih (i + 1) _ _ (by omega) (by omega) (by omega) ?_ ?_ ?_ ?_
      · intro a j h1 h2
        rw [z_un (by omega)]
        exact f1 a j h1 h2
      · rw [z_un (by omega)]
        exact f2
      · intro j h1 h2
        rw [z_un (by omega)]
        exact f3 j (by omega) h2
      · intro j hj
        by_cases hji : j = i
        · rw [z_ue rfl hji, hji, hC]
        · rw [z_un (by omega)]
          exact f4 j (by omega)
  have mid74 : ∀ (a3 : Int) (v : q_V) (m' : z_M), (∀ a j, (a < 73 ∨ 74 < a) → ¬ (a = 70 ∧ j = 6) → m' a j = m a j) → t_R m' 74 G → z_C 70 [.inr (.inr 74)] (z_st m' g) (fun w S => z_T 69 49 [.inr (.inr 70), .inr (.inr 74), .inr (.inr 73), .inl a3, v] (q_push w [.inr (.inr 70)]) S Q) := fun a3 v m' f1 f2 => by
    refine c_topOf_b hp f2 rG (y_69_49 ?_)
    have f1' : ∀ a j, (a < 73 ∨ 74 < a) → ¬ (a = 70 ∧ j = 6) → (q_upd m' 70 6 (x_top G 13)) a j = m a j := fun a j h1 h2 => by rw [z_un h2]; exact f1 a j h1 h2
    have f2' : ∀ j, 0 ≤ j → j < 13 → (q_upd m' 70 6 (x_top G 13)) 74 j = G j := fun j _ hj => by rw [z_un (by omega)]; exact f2 j hj
    refine ⟨(by unfold z_ok; omega), fun h0 => ⟨by decide, ⟨by decide, rfl⟩, ⟨by omega, by omega⟩, ?_⟩, fun h0 => y_69_62 ?_⟩
    · have b1 := rG (x_top G 13).toNat (by omega)
      rw [f2' _ (by omega) (by omega)]
      refine c_over (hFm _ f1') b1.1 b1.2 (y_69_62 ?_)
      have e : z_inv p (G (x_top G 13).toNat) = fc := by rw [← efc, if_neg (by omega)]
      rw [e]
      exact last74 13 0 0 _ rfl rfl (by omega) f1' (z_ue rfl rfl) f2' (fun j hj => by omega)
    · have e : (0 : Int) = fc := by rw [← efc, if_pos h0]
      rw [e]
      exact last74 13 0 _ _ rfl (by rw [← e]; rfl) (by omega) f1' (z_ue rfl rfl) f2' (fun j hj => by omega)
  have main : ∀ (n : Nat) (i : Int) (A B : Nat → Int) (m' : z_M) (v : q_V), i = 14 - (n : Int) → n ≤ 14 → (∀ a j, (a < 73 ∨ 74 < a) → ¬ (a = 70 ∧ j = 6) → m' a j = m a j) → x_R p A → x_R p B → x_gcd p n A B = G → (t_R m' 73 A → t_R m' 74 B → z_T 69 28 [.inr (.inr 70), .inr (.inr 73), .inr (.inr 74), .inl i, v] [] (z_st m' g) Q) ∧ (t_R m' 74 A → t_R m' 73 B → z_T 69 28 [.inr (.inr 70), .inr (.inr 74), .inr (.inr 73), .inl i, v] [] (z_st m' g) Q) := by
    intro n
    induction n with
    | zero =>
      intro i A B m' v hi hn f1 rA rB hG
      have hG : A = G := hG
      subst hG
      exact ⟨fun hA hB => y_69_28 ⟨(by unfold z_ok2; omega), fun _ => ⟨by decide, ⟨by decide, trivial⟩, mid73 _ _ m' f1 hA⟩, (fun h => absurd h (by omega))⟩, fun hA hB => y_69_28 ⟨(by unfold z_ok2; omega), fun _ => ⟨by decide, ⟨by decide, trivial⟩, mid74 _ _ m' f1 hA⟩, (fun h => absurd h (by omega))⟩⟩
    | succ n ih =>
      intro i A B m' v hi hn f1 rA rB hG
      have hr := x_top_rng B 13
      unfold x_gcd at hG
      constructor
      · intro hA hB
        refine y_69_28 ⟨(by unfold z_ok2; omega), (fun h => absurd h (by omega)), fun _ => ⟨by decide, ⟨by decide, trivial⟩, c_topOf_b hp hB rB (y_69_33 ⟨(by unfold z_ok; omega), fun hz => ?_, fun hz => ?_⟩)⟩⟩
        · rw [if_pos hz] at hG
          subst hG
          exact ⟨by decide, ⟨by decide, trivial⟩, mid73 _ _ m' f1 hA⟩
        · rw [if_neg (by omega)] at hG
          refine ⟨by decide, by decide, ⟨by decide, by decide, by decide, trivial⟩, c_reduce_a (hFm m' f1) hA hB rA rB hz fun m2 g1 g2 => y_69_38 ⟨by decide, by decide, by decide, by decide, by decide, by decide, ?_⟩⟩
          exact (ih _ B (x_red p A B) m2 _ (by omega) (by omega) (fun a j h1 h2 => by rw [g1 a j (by omega)]; exact f1 a j h1 h2) rB (x_red_R hp rA) hG).2 (fun j hj => by rw [g1 74 j (by omega)]; exact hB j hj) g2
      · intro hA hB
        refine y_69_28 ⟨(by unfold z_ok2; omega), (fun h => absurd h (by omega)), fun _ => ⟨by decide, ⟨by decide, trivial⟩, c_topOf_a hp hB rB (y_69_33 ⟨(by unfold z_ok; omega), fun hz => ?_, fun hz => ?_⟩)⟩⟩
        · rw [if_pos hz] at hG
          subst hG
          exact ⟨by decide, ⟨by decide, trivial⟩, mid74 _ _ m' f1 hA⟩
        · rw [if_neg (by omega)] at hG
          refine ⟨by decide, by decide, ⟨by decide, by decide, by decide, trivial⟩, c_reduce_b (hFm m' f1) hA hB rA rB hz fun m2 g1 g2 => y_69_38 ⟨by decide, by decide, by decide, by decide, by decide, by decide, ?_⟩⟩
          exact (ih _ B (x_red p A B) m2 _ (by omega) (by omega) (fun a j h1 h2 => by rw [g1 a j (by omega)]; exact f1 a j h1 h2) rB (x_red_R hp rA) hG).1 (fun j hj => by rw [g1 73 j (by omega)]; exact hB j hj) g2
  refine y_69 ⟨by decide, by decide, ?_⟩
  refine (main 14 0 L (l_D p L) _ _ (by decide) (by decide) ?_ rL (l_D_R hp) eG).1 ?_ ?_
  · intro a j h1 h2
    unfold q_cpy
    rw [if_neg (by omega), if_neg (by omega)]
  · intro j hj
    show (q_cpy (q_cpy m 71 0 73 0 13) 72 0 74 0 13) 73 j = L j
    unfold q_cpy
    rw [if_neg (by omega), if_pos (by omega), show 0 + (j - 0) = j by omega]
    exact hL j hj
  · intro j hj
    show (q_cpy (q_cpy m 71 0 73 0 13) 72 0 74 0 13) 74 j = l_D p L j
    unfold q_cpy
    rw [if_pos (by omega), if_neg (by omega), show 0 + (j - 0) = j by omega]
    exact hD j hj
theorem c_commonAt {m : z_M} {g : z_g} {Q : q_V → q_S → Prop} {i : Int} {f : Nat → Int} (h0 : 0 ≤ i) (h1 : i < 13) (hR : t_R m 73 f) (kk : Q (.inl (f i.toNat)) (z_st m g)) : z_C 78 [.inr (.inr 70), .inl i] (z_st m g) Q := by
  rw [← hR i.toNat (by omega)] at kk
  exact y_78 ⟨(by unfold z_ok; omega), (fun h => absurd h (by omega)), fun _ => ⟨(by unfold z_ok2; omega), fun _ => ⟨⟨by omega, by omega⟩, kk⟩, (fun h => absurd h (by omega))⟩⟩
