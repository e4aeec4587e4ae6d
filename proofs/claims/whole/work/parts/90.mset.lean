/-! CONTRACTS of the model: exponents, numbers modulo p -/
theorem n_many {m : z_M} {g : z_g} {Q : q_V → q_S → Prop} {S : Nat} (hS : S < 2147483648) (kk : Q (.inl (x_many S : Int)) (z_st m g)) : z_C 192 [.inl (S : Int)] (z_st m g) Q := by
  have loop : ∀ (d e : Nat) (ei : Int), 13 - e = d → ei = (e : Int) → e ≤ 13 → z_T 192 4 [.inl (S : Int), .inl ((x_pre S e).length : Int), .inl ei] [] (z_st m g) Q := by
    intro d
    induction d with
    | zero =>
      intro e ei hd he h
      obtain rfl : e = 13 := by omega
      exact y_192_4 ⟨(by unfold z_ok2; omega), fun _ => kk, (fun h => absurd h (by omega))⟩
    | succ d ih =>
      intro e ei hd he h
      have hb := q_b_bit (a := S) (e := e) hS (by omega)
      refine y_192_4 ⟨(by unfold z_ok2; omega), (fun h => absurd h (by omega)), fun _ => ?_⟩
      rw [he, hb]
      have ih := ih (e + 1) ((e : Int) + 1) (by omega) (by omega) (by omega)
      by_cases h2 : S.testBit e = true
      · rw [if_pos h2]
        rw [x_pre_t h2, List.length_append] at ih
        exact ih
      · rw [if_neg h2]
        rw [x_pre_f h2] at ih
        rw [Int.add_zero]
        exact ih
  exact y_192 (loop 13 0 0 rfl rfl (by omega))
theorem n_exponent {m : z_M} {g : z_g} {Q : q_V → q_S → Prop} {S : Nat} {k : Int} (hS : S < 2147483648) (h0 : 0 ≤ k) (h1 : k < x_many S) (kk : Q (.inl (x_at S k.toNat : Int)) (z_st m g)) : z_C 198 [.inl (S : Int), .inl k] (z_st m g) Q := by
  have h13 : x_many S ≤ 13 := by
    have := List.length_filter_le (fun e => S.testBit e) (List.range 13)
    unfold x_many x_pre
    simp at this ⊢
    omega
  have loop : ∀ (d e : Nat) (ei l : Int), 13 - e = d → ei = (e : Int) → e ≤ 13 → l = k - (x_pre S e).length → 0 ≤ l → z_T 198 4 [.inl (S : Int), .inl k, .inl ei, .inl l] [] (z_st m g) Q := by
    intro d
    induction d with
    | zero =>
      intro e ei l hd he h hl hl0
      obtain rfl : e = 13 := by omega
      have : x_many S = (x_pre S 13).length := rfl
      omega
    | succ d ih =>
      intro e ei l hd he h hl hl0
      have hb := q_b_bit (a := S) (e := e) hS (by omega)
      subst he
      refine y_198_4 ?_
      rw [hb]
      by_cases h2 : S.testBit e = true
      · rw [if_pos h2]
        have ih := ih (e + 1) ((e : Int) + 1) (l - 1) (by omega) (by omega) (by omega) (by rw [x_pre_t h2, List.length_append]; have : [e].length = 1 := rfl; omega)
        refine ⟨(by unfold z_ok; omega), fun hl1 => ih (by omega), fun hl1 => ⟨(by unfold z_ok; omega), fun _ => ?_, fun h => absurd h (by decide)⟩⟩
        have := x_at_of (S := S) (e := e) (k := k.toNat) (by omega) h2 (by omega)
        rw [this] at kk
        exact kk
      · rw [if_neg h2, Int.sub_zero]
        have ih := ih (e + 1) ((e : Int) + 1) l (by omega) (by omega) (by omega) (by rw [x_pre_f h2]; exact hl) hl0
        exact ⟨(by unfold z_ok; omega), fun _ => ih, fun _ => ⟨(by unfold z_ok; omega), fun h => absurd rfl h, fun _ => ih⟩⟩
  refine y_198 (loop 13 0 0 k rfl rfl (by omega) ?_ h0)
  rw [x_pre_0]
  show k = k - 0
  omega
theorem n_first {m : z_M} {g : z_g} {Q : q_V → q_S → Prop} {S : Nat} (hS : S < 2147483648) (h1 : 1 ≤ x_many S) (kk : Q (.inl (x_at S 0 : Int)) (z_st m g)) : z_C 199 [.inl (S : Int)] (z_st m g) Q :=
  y_199 (n_exponent hS (by omega) (by omega) (y_199_3 kk))
theorem n_last {m : z_M} {g : z_g} {Q : q_V → q_S → Prop} {S : Nat} (hS : S < 2147483648) (h1 : 1 ≤ x_many S) (kk : Q (.inl (x_at S (x_many S - 1) : Int)) (z_st m g)) : z_C 197 [.inl (S : Int)] (z_st m g) Q := by
  refine y_197 (n_many hS (y_197_3 (n_exponent hS (by omega) (by omega) (y_197_6 ?_))))
  rw [show ((x_many S : Int) - 1).toNat = x_many S - 1 by omega]
  exact kk
theorem n_span {m : z_M} {g : z_g} {Q : q_V → q_S → Prop} {S : Nat} (hS : S < 2147483648) (h1 : 1 ≤ x_many S) (kk : Q (.inl ((x_at S (x_many S - 1) : Int) - (x_at S 0 : Int))) (z_st m g)) : z_C 196 [.inl (S : Int)] (z_st m g) Q :=
  y_196 (n_last hS h1 (y_196_2 (n_first hS h1 (y_196_4 kk))))
theorem n_divisor_nn {m : z_M} {g : z_g} {Q : q_V → q_S → Prop} {a b : Nat} {x y : Int} {v : q_V} (ha : a < 2147483648) (hb : b < 2147483648) (kk : Q (.inl (Nat.gcd a b : Int)) (z_st m g)) : z_T 201 14 [.inl x, .inl y, .inl (a : Int), .inl (b : Int), v] [] (z_st m g) Q := by
  have loop : ∀ (d a b : Nat) (v : q_V), b ≤ d → a < 2147483648 → b < 2147483648 → Q (.inl (Nat.gcd a b : Int)) (z_st m g) → z_T 201 14 [.inl x, .inl y, .inl (a : Int), .inl (b : Int), v] [] (z_st m g) Q := by
    intro d
    induction d with
    | zero =>
      intro a b v hd ha hb kk
      obtain rfl : b = 0 := by omega
      rw [Nat.gcd_zero_right] at kk
      exact y_201_14 ⟨(by unfold z_ok; omega), fun _ => kk, (fun h => absurd h (by omega))⟩
    | succ d ih =>
      intro a b v hd ha hb kk
      refine y_201_14 ⟨(by unfold z_ok; omega), fun h => ?_, fun h => ⟨(by unfold z_dv; omega), ?_⟩⟩
      · obtain rfl : b = 0 := by omega
        rw [Nat.gcd_zero_right] at kk
        exact kk
      · have hm : a % b < b := Nat.mod_lt _ (by omega)
        rw [← Int.natCast_emod]
        refine ih b (a % b) _ (by omega) hb (by omega) ?_
        rw [Nat.gcd_comm a b, Nat.gcd_rec b a, Nat.gcd_comm] at kk
        exact kk
  exact loop b a b v (Nat.le_refl _) ha hb kk
theorem n_divisor {m : z_M} {g : z_g} {Q : q_V → q_S → Prop} {x y : Int} (hx : -2147483648 < x ∧ x < 2147483648) (hy : -2147483648 < y ∧ y < 2147483648) (kk : Q (.inl (Nat.gcd x.natAbs y.natAbs : Int)) (z_st m g)) : z_C 201 [.inl x, .inl y] (z_st m g) Q := by
  have go := fun (a b : Int) (ha : a = x.natAbs) (hb : b = y.natAbs) => show z_T 201 14 [.inl x, .inl y, .inl a, .inl b, q_dead] [] (z_st m g) Q by
    subst ha; subst hb
    exact n_divisor_nn (by omega) (by omega) kk
  exact y_201 ⟨(by unfold z_ok; omega), fun _ => ⟨(by unfold z_ok; omega), fun _ => go _ _ (by omega) (by omega), fun _ => go _ _ (by omega) (by omega)⟩, fun _ => ⟨(by unfold z_ok; omega), fun _ => go _ _ (by omega) (by omega), fun _ => go _ _ (by omega) (by omega)⟩⟩
theorem n_step {m : z_M} {g : z_g} {Q : q_V → q_S → Prop} {S : Nat} (hS : S < 2147483648) (h1 : 1 ≤ x_many S) (kk : Q (.inl (x_step S : Int)) (z_st m g)) : z_C 200 [.inl (S : Int)] (z_st m g) Q := by
  have loop : ∀ (d k : Nat) (ki : Int), x_many S - k = d → ki = (k : Int) → k ≤ x_many S → z_T 200 4 [.inl (S : Int), .inl (x_stp S k : Int), .inl ki] [] (z_st m g) Q := by
    intro d
    induction d with
    | zero =>
      intro k ki hd he hk
      obtain rfl : k = x_many S := by omega
      have h3 := x_stp_le (S := S) (n := x_many S) (by omega)
      have h13 : (x_many S : Int) ≤ 13 := by
        have := List.length_filter_le (fun e => S.testBit e) (List.range 13)
        unfold x_many x_pre
        simp at this ⊢
        omega
      exact y_200_4 (n_many hS (y_200_7 ⟨(by unfold z_ok2; omega), fun _ => kk, (fun h => absurd h (by omega))⟩))
    | succ d ih =>
      intro k ki hd he hk
      have h0 := x_at_le (S := S) (k := k) (by omega)
      have h3 := x_stp_le (S := S) (n := k) (by omega)
      have h13 : (x_many S : Int) ≤ 13 := by
        have := List.length_filter_le (fun e => S.testBit e) (List.range 13)
        unfold x_many x_pre
        simp at this ⊢
        omega
      refine y_200_4 (n_many hS (y_200_7 ⟨(by unfold z_ok2; omega), (fun h => absurd h (by omega)), fun _ => n_exponent hS (by omega) (by omega) (y_200_12 (n_first hS h1 (y_200_14 ?_)))⟩))
      rw [show ki.toNat = k by omega]
      refine n_divisor (by omega) (by omega) (y_200_16 ?_)
      rw [show ((x_stp S k : Int)).natAbs = x_stp S k by omega, show ((x_at S k : Int) - (x_at S 0 : Int)).natAbs = x_at S k - x_at S 0 by omega]
      exact ih (k + 1) _ (by omega) (by omega) (by omega)
  have := loop _ 1 1 rfl rfl h1
  have e : x_stp S 1 = 0 := by simp [x_stp]
  rw [e] at this
  exact y_200 this
theorem n_degree {m : z_M} {g : z_g} {Q : q_V → q_S → Prop} {S : Nat} (hS : x_V S) (kk : Q (.inl (x_degree S)) (z_st m g)) : z_C 202 [.inl (S : Int)] (z_st m g) Q := by
  have h1 := x_step_pos hS
  have hS2 : S < 2147483648 := by have := hS.1; omega
  have h2 := hS.2.1
  have h3 := x_at_le (S := S) (k := x_many S - 1) (by omega)
  have h4 := x_at_le (S := S) (k := x_many S - 2) (by omega)
  have h5 := x_at_le (S := S) (k := 1) (by omega)
  have h7 : x_at S 1 ≤ x_at S (x_many S - 1) := by
    by_cases hh : x_many S - 1 = 1
    · rw [hh]; exact Nat.le_refl _
    · exact Nat.le_of_lt (x_at_lt (by omega) (by omega))
  refine y_202 (n_many hS2 (y_202_2 (n_span hS2 (by omega) (y_202_6 (n_exponent hS2 (by decide) (by omega) (y_202_10 (n_first hS2 (by omega) (y_202_12 (n_last hS2 (by omega) (y_202_16 (n_exponent hS2 (by omega) (by omega) (y_202_21 (n_step hS2 (by omega) (y_202_25 ?_))))))))))))))
  rw [show ((x_many S : Int) - 2).toNat = x_many S - 2 by omega]
  show z_dv (2 * ((x_at S (x_many S - 1) : Int) - x_at S 0) - ((x_at S 1 : Int) - x_at S 0) - ((x_at S (x_many S - 1) : Int) - x_at S (x_many S - 2))) _ ∧ _
  exact ⟨(by unfold z_dv; omega), kk⟩
theorem n_has {m : z_M} {g : z_g} {Q : q_V → q_S → Prop} {S : Nat} {e : Int} (hS : S < 2147483648) (he : z_ok e) (k1 : 0 ≤ e → e ≤ 12 → S.testBit e.toNat = true → Q (.inl 1) (z_st m g)) (k0 : ¬ (0 ≤ e ∧ e ≤ 12 ∧ S.testBit e.toNat = true) → Q (.inl 0) (z_st m g)) : z_C 204 [.inl (S : Int), .inl e] (z_st m g) Q := by
  refine y_204 (c_isIn (y_204_4 ?_))
  rw [q_w_id (v := 0) (by decide) (by decide), q_w_id (v := 12) (by decide) (by decide), q_w_id he.1 he.2]
  by_cases hr : 0 ≤ e ∧ e ≤ 12
  · rw [if_pos hr]
    obtain ⟨n, rfl⟩ := Int.eq_ofNat_of_zero_le hr.1
    have hb := q_b_bit (a := S) (e := n) hS (by omega)
    rw [hb]
    refine ⟨(by unfold z_ok; omega), fun h => absurd h (by decide), fun _ => ?_⟩
    by_cases h2 : S.testBit n = true
    · rw [if_pos h2]
      exact ⟨(by unfold z_ok2; omega), fun h => absurd rfl h, fun _ => k1 hr.1 hr.2 h2⟩
    · rw [if_neg h2]
      exact ⟨(by unfold z_ok2; omega), fun _ => k0 (fun h => h2 h.2.2), fun h => absurd h (by decide)⟩
  · rw [if_neg hr]
    exact ⟨(by unfold z_ok; omega), fun _ => k0 (fun h => hr ⟨h.1, h.2.1⟩), fun h => absurd rfl h⟩
theorem n_relationOf {m : z_M} {g : z_g} {Q : q_V → q_S → Prop} {S k : Nat} {i : Int} (hS : S < 2147483648) (hi0 : 0 ≤ i) (hi : i + 2 < x_many S) (hk : k < x_many S) (kk : Q (.inl (x_rel S i.toNat k)) (z_st m g)) : z_C 205 [.inl (S : Int), .inl i, .inl (x_at S k : Int)] (z_st m g) Q := by
  obtain ⟨i, rfl⟩ := Int.eq_ofNat_of_zero_le hi0
  have a1 := x_at_lt (S := S) (i := i) (j := i + 1) (by omega) (by omega)
  have a2 := x_at_lt (S := S) (i := i + 1) (j := i + 2) (by omega) (by omega)
  have a3 := x_at_le (S := S) (k := i + 2) (by omega)
  have a4 := x_at_le (S := S) hk
  refine y_205 (n_exponent hS hi0 (by omega) (y_205_3 (n_exponent hS (by omega) (by omega) (y_205_9 (n_exponent hS (by omega) (by omega) (y_205_15 ?_))))))
  rw [show ((i : Int)).toNat = i by omega, show ((i : Int) + 1).toNat = i + 1 by omega, show ((i : Int) + 2).toNat = i + 2 by omega]
  rw [Int.toNat_natCast] at kk
  obtain ⟨G, hG⟩ : ∃ G, Nat.gcd (x_at S (i + 1) - x_at S i) (x_at S (i + 2) - x_at S (i + 1)) = G := ⟨_, rfl⟩
  have g1 : 0 < G := by rw [← hG]; exact Nat.gcd_pos_of_pos_left _ (by omega)
  have g2 : G ≤ x_at S (i + 1) - x_at S i := by rw [← hG]; exact Nat.gcd_le_left _ (by omega)
  have g3 : Nat.gcd (Nat.gcd (x_at S (i + 2) - x_at S (i + 1)) (x_at S (i + 2) - x_at S i)) (x_at S (i + 1) - x_at S i) = G := by
    have e : x_at S (i + 2) - x_at S i = (x_at S (i + 1) - x_at S i) + (x_at S (i + 2) - x_at S (i + 1)) := by omega
    rw [e, Nat.gcd_add_self_right, Nat.gcd_comm (x_at S (i + 2) - x_at S (i + 1)), Nat.gcd_comm, ← Nat.gcd_assoc, Nat.gcd_self, hG]
  unfold x_rel at kk
  rw [hG] at kk
  have le1 : Nat.gcd (x_at S (i + 2) - x_at S (i + 1)) (x_at S (i + 2) - x_at S i) ≤ x_at S (i + 2) - x_at S (i + 1) := Nat.gcd_le_left _ (by omega)
  refine n_divisor (by omega) (by omega) (y_205_23 ?_)
  rw [show ((x_at S (i + 2) : Int) - (x_at S (i + 1) : Int)).natAbs = x_at S (i + 2) - x_at S (i + 1) by omega, show ((x_at S i : Int) - (x_at S (i + 2) : Int)).natAbs = x_at S (i + 2) - x_at S i by omega]
  refine n_divisor (by omega) (by omega) (y_205_27 ?_)
  rw [Int.natAbs_natCast, show ((x_at S (i + 1) : Int) - (x_at S i : Int)).natAbs = x_at S (i + 1) - x_at S i by omega, g3]
  have inj : ∀ j, j < x_many S → ((x_at S k : Int) = (x_at S j : Int) ↔ k = j) := fun j hj => ⟨fun h => x_at_inj hk hj (by omega), fun h => by rw [h]⟩
  refine ⟨(by unfold z_ok2; omega), fun h1 => ⟨(by unfold z_ok2; omega), fun h2 => ⟨(by unfold z_ok2; omega), fun h3 => ⟨(by unfold z_dw; omega), ?_⟩, fun h3 => ⟨(by unfold z_dw; omega), ?_⟩⟩, fun h2 => ⟨(by unfold z_dw; omega), ?_⟩⟩, fun h1 => ⟨(by unfold z_dw; omega), ?_⟩⟩
  · rw [inj i (by omega)] at h1
    rw [inj (i + 1) (by omega)] at h2
    rw [inj (i + 2) (by omega)] at h3
    rw [if_neg h1, if_neg h2, if_neg h3] at kk
    rw [Int.zero_tdiv]
    exact kk
  · rw [inj i (by omega)] at h1
    rw [inj (i + 1) (by omega)] at h2
    rw [inj (i + 2) (by omega)] at h3
    rw [if_neg h1, if_neg h2, if_pos h3] at kk
    exact kk
  · rw [inj i (by omega)] at h1
    rw [inj (i + 1) (by omega)] at h2
    rw [if_neg h1, if_pos h2] at kk
    exact kk
  · rw [inj i (by omega)] at h1
    rw [if_pos h1] at kk
    exact kk
/-- the model's prime -/
def n_P (m : z_M) (p : Int) : Prop := z_pr p ∧ 0 ≤ m 131 1 ∧ m 131 1 < 9 ∧ m 132 (m 131 1).toNat = p
theorem n_p {m : z_M} {g : z_g} {Q : q_V → q_S → Prop} {p : Int} (h : n_P m p) (kk : Q (.inl p) (z_st m g)) : z_C 216 [.inr (.inr 131)] (z_st m g) Q := by
  obtain ⟨h1, h2, h3, h4⟩ := h
  rw [← h4] at kk
  exact y_216 ⟨⟨by omega, by omega⟩, kk⟩
theorem n_rest {m : z_M} {g : z_g} {Q : q_V → q_S → Prop} {p v : Int} (h : n_P m p) (hv : z_ok v) (kk : Q (.inl (v % p)) (z_st m g)) : z_C 215 [.inr (.inr 131), .inl v] (z_st m g) Q := by
  have hp5 := z_pr_le h.1
  obtain ⟨f1, f2, f3⟩ := q_fm0 (v := v) (p := p) (by omega)
  have hv1 := hv.1
  have hv2 := hv.2
  refine y_215 (n_p h (y_215_3 ⟨(by unfold z_dw; omega), n_p h (y_215_6 (n_p h (y_215_9 ⟨(by unfold z_dw; omega), ?_⟩)))⟩))
  have e : (v.tmod p + p).tmod p = v % p := by
    rw [Int.tmod_eq_emod_of_nonneg (by omega)]
    rw [Int.add_emod_right]
    have := Int.tmod_add_mul_tdiv v p
    exact z_mk (k := -(v.tdiv p)) (by rw [Int.mul_neg]; omega)
  rw [e]
  exact kk
theorem n_power {m : z_M} {g : z_g} {Q : q_V → q_S → Prop} {p v n : Int} (h : n_P m p) (hv : z_ok v) (h0 : 0 ≤ n) (h1 : n < 1000) (kk : Q (.inl (v ^ n.toNat % p)) (z_st m g)) : z_C 227 [.inr (.inr 131), .inl v, .inl n] (z_st m g) Q := by
  have hp5 := z_pr_le h.1
  have loop : ∀ (d k : Nat) (ki : Int), n.toNat - k = d → ki = (k : Int) → k ≤ n.toNat → z_T 227 4 [.inr (.inr 131), .inl v, .inl n, .inl (v ^ k % p), .inl ki] [] (z_st m g) Q := by
    intro d
    induction d with
    | zero =>
      intro k ki hd he hk
      obtain rfl : k = n.toNat := by omega
      exact y_227_4 ⟨(by unfold z_ok2; omega), fun _ => kk, (fun h => absurd h (by omega))⟩
    | succ d ih =>
      intro k ki hd he hk
      have b1 := z_m0 (p := p) (a := v ^ k) (by omega)
      have b2 := z_m0 (p := p) (a := v) (by omega)
      have b3 : 0 ≤ (v ^ k % p) * (v % p) ∧ (v ^ k % p) * (v % p) ≤ 31 * 31 := ⟨Int.mul_nonneg (by omega) (by omega), Int.mul_le_mul (by omega) (by omega) (by omega) (by omega)⟩
      refine y_227_4 ⟨(by unfold z_ok2; omega), (fun h => absurd h (by omega)), fun _ => n_rest h hv (y_227_11 (n_p h (y_227_14 ⟨(by unfold z_dv; omega), ?_⟩)))⟩
      have e : (v ^ k % p) * (v % p) % p = v ^ (k + 1) % p := by
        rw [Int.pow_succ]
        exact z_mmul z_mm z_mm
      rw [e]
      exact ih (k + 1) _ (by omega) (by omega) (by omega)
  have := loop _ 0 0 rfl rfl (by omega)
  have e : v ^ 0 % p = 1 := by rw [Int.pow_zero]; exact z_mi (by decide) (by omega)
  rw [e] at this
  exact y_227 this
theorem n_over {m : z_M} {g : z_g} {Q : q_V → q_S → Prop} {p v : Int} (h : n_P m p) (hv : z_ok v) (kk : Q (.inl (z_inv p v)) (z_st m g)) : z_C 226 [.inr (.inr 131), .inl v] (z_st m g) Q := by
  have hp5 := z_pr_le h.1
  refine y_226 (n_p h (y_226_4 (n_power h hv (by omega) (by omega) (y_226_7 ?_))))
  unfold z_inv at kk
  rw [show p.toNat - 2 = (p - 2).toNat by omega] at kk
  exact kk
theorem n_isRight {m : z_M} {g : z_g} {Q : q_V → q_S → Prop} {k : Int} (hk : z_ok k) (k1 : ∀ S : Nat, k = S → x_V S → Q (.inl 1) (z_st m g)) (k0 : (∀ S : Nat, k = S → ¬ x_V S) → Q (.inl 0) (z_st m g)) : z_C 191 [.inl k] (z_st m g) Q := by
  refine y_191 ⟨hk, fun h => k0 fun S hS => by omega, fun h => ⟨by unfold z_ok at hk; unfold z_ok2; omega, fun h2 => k0 fun S hS hV => by have := hV.1; omega, fun h2 => ?_⟩⟩
  obtain ⟨S, rfl⟩ := Int.eq_ofNat_of_zero_le h
  have h13 : (x_many S : Int) ≤ 13 := by
    have := List.length_filter_le (fun e => S.testBit e) (List.range 13)
    unfold x_many x_pre
    simp at this ⊢
    omega
  refine n_many (by omega) (y_191_7 (c_isIn (y_191_10 ?_)))
  rw [q_w_id (v := 2) (by decide) (by decide), q_w_id (v := 6) (by decide) (by decide), q_w_id (v := (x_many S : Int)) (by omega) (by omega)]
  by_cases hr : (2 : Int) ≤ x_many S ∧ (x_many S : Int) ≤ 6
  · rw [if_pos hr]
    exact ⟨(by unfold z_ok; omega), fun h => absurd h (by decide), fun _ => k1 S rfl ⟨by omega, by omega, by omega⟩⟩
  · rw [if_neg hr]
    refine ⟨(by unfold z_ok; omega), fun _ => k0 fun S' hS' hV => hr ?_, fun h => absurd rfl h⟩
    obtain rfl : S' = S := by omega
    have := hV.2
    omega
