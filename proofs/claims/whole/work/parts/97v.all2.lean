/-! PAIRS: all, the pair -/
def o_P (p : Int) (S k : Nat) : Prop := x_dbl p (o_N S (1 + ((k / ((p.toNat - 1) * (p.toNat - 1)) : Nat) : Int)) (1 + ((k / (p.toNat - 1) % (p.toNat - 1) : Nat) : Int)) (1 + ((k % (p.toNat - 1) : Nat) : Int)))
def o_val (p : Int) (k : Nat) : Int := 10000 * (1 + ((k / ((p.toNat - 1) * (p.toNat - 1)) : Nat) : Int)) + 100 * (1 + ((k / (p.toNat - 1) % (p.toNat - 1) : Nat) : Int)) + (1 + ((k % (p.toNat - 1) : Nat) : Int))
theorem o_div {q a b c : Nat} (hb : b < q) (hc : c < q) : ((a * q + b) * q + c) / (q * q) = a ∧ ((a * q + b) * q + c) / q % q = b ∧ ((a * q + b) * q + c) % q = c := by
  have hq : 0 < q := by omega
  have h1 : ((a * q + b) * q + c) / q = a * q + b := by rw [Nat.add_comm, Nat.add_mul_div_right _ _ hq, Nat.div_eq_of_lt hc, Nat.zero_add]
  refine ⟨?_, ?_, ?_⟩
  · rw [← Nat.div_div_eq_div_mul, h1, Nat.add_comm, Nat.add_mul_div_right _ _ hq, Nat.div_eq_of_lt hb, Nat.zero_add]
  · rw [h1, Nat.add_comm, Nat.add_mul_mod_self_right, Nat.mod_eq_of_lt hb]
  · rw [Nat.add_comm, Nat.add_mul_mod_self_right, Nat.mod_eq_of_lt hc]
/-- the first, or -5 -/
def z_f1 (P : Nat → Prop) (f : Nat → Int) (n : Nat) (v : Int) : Prop := (∃ k, k < n ∧ P k ∧ (∀ j, j < k → ¬ P j) ∧ v = f k) ∨ ((∀ j, j < n → ¬ P j) ∧ v = -5)
theorem z_f1_uni {P : Nat → Prop} {f : Nat → Int} {n : Nat} {v v' : Int} (h : z_f1 P f n v) (h' : z_f1 P f n v') : v = v' := by
  rcases h with ⟨k, h1, h2, h3, h4⟩ | ⟨h1, h2⟩
  · rcases h' with ⟨k', g1, g2, g3, g4⟩ | ⟨g1, g2⟩
    · have : k = k' := by
        rcases Nat.lt_trichotomy k k' with h | h | h
        · exact absurd h2 (g3 k h)
        · exact h
        · exact absurd g2 (h3 k' h)
      rw [h4, g4, this]
    · exact absurd h2 (g1 k h1)
  · rcases h' with ⟨k', g1, g2, g3, g4⟩ | ⟨g1, g2⟩
    · exact absurd g2 (h1 k' g1)
    · rw [h2, g2]
theorem z_cn_c0 {P : Nat → Prop} {n : Nat} {c a : Int} (h : z_cn P 0 n c a) : 0 ≤ c ∧ (c = 0 → ∀ j, j < n → ¬ P j) ∧ (¬ c = 0 → ∃ j, j < n ∧ P j) := by
  obtain ⟨l, h1, h2, -, -⟩ := h
  refine ⟨by omega, fun h0 j hj hP => ?_, fun h0 => ?_⟩
  · have hl : l = [] := List.length_eq_zero_iff.1 (by omega)
    have := (h2 j).2 ⟨Nat.zero_le _, hj, hP⟩
    rw [hl] at this
    exact absurd this List.not_mem_nil
  · cases l with
    | nil => exact absurd h1 h0
    | cons i l =>
      have := (h2 i).1 List.mem_cons_self
      exact ⟨i, this.2.1, this.2.2⟩
/-- a whole block counted by its bits -/
theorem o_block {P : Nat → Prop} {T K q : Nat} (hq : q ≤ 30) (hT : ∀ j, T.testBit j = true ↔ 1 ≤ j ∧ j < q + 1 ∧ P (K + (j - 1))) {c a : Int} (h : z_cn P 0 K c a) : ∃ a', z_cn P 0 (K + q) (c + r_bc T) a' := by
  have step : ∀ j, j ≤ q → ∃ a', z_cn P 0 (K + j) (c + z_sum (fun i => if T.testBit (i + 1) = true then (1 : Int) else 0) j) a' := by
    intro j
    induction j with
    | zero => exact fun _ => ⟨a, by show z_cn P 0 K (c + 0) a; rw [Int.add_zero]; exact h⟩
    | succ j ih =>
      intro hj
      obtain ⟨a', h'⟩ := ih (by omega)
      show ∃ a', z_cn P 0 (K + j + 1) (c + (z_sum (fun i => if T.testBit (i + 1) = true then (1 : Int) else 0) j + (if T.testBit (j + 1) = true then (1 : Int) else 0))) a'
      by_cases hP : P (K + j)
      · rw [if_pos ((hT (j + 1)).2 ⟨by omega, by omega, hP⟩), ← Int.add_assoc]
        exact ⟨_, z_cn_up h' (by omega) hP⟩
      · rw [if_neg (fun h => hP ((hT (j + 1)).1 h).2.2), Int.add_zero]
        exact ⟨_, z_cn_up' h' hP⟩
  obtain ⟨a', h'⟩ := step q (Nat.le_refl _)
  refine ⟨a', ?_⟩
  have e : r_bc T = z_sum (fun i => if T.testBit (i + 1) = true then (1 : Int) else 0) q := by
    unfold r_bc
    have h0 : ¬ T.testBit 0 = true := fun h => absurd ((hT 0).1 h).1 (by omega)
    rw [z_sum_shift, if_neg h0, Int.zero_add, show (30 : Nat) = q + (30 - q) by omega, z_sum_split, z_sum_0 (f := fun j => if T.testBit (q + j + 1) = true then (1 : Int) else 0), Int.add_zero]
    intro k _
    exact if_neg (fun h => absurd ((hT (q + k + 1)).1 h).2.1 (by omega))
  rw [e]
  exact h'
theorem o_T_P {p : Int} {S a b T : Nat} (hp : z_pr p) (ha : a < p.toNat - 1) (hb : b < p.toNat - 1) (hT : o_T p S (1 + (a : Int)) (1 + (b : Int)) T) : ∀ j, T.testBit j = true ↔ 1 ≤ j ∧ j < (p.toNat - 1) + 1 ∧ o_P p S ((a * (p.toNat - 1) + b) * (p.toNat - 1) + (j - 1)) := by
  have hp5 := z_pr_le hp
  intro j
  rw [hT.2]
  constructor
  · rintro ⟨j1, j2, j3⟩
    obtain ⟨d1, d2, d3⟩ := o_div (a := a) hb (c := j - 1) (by omega)
    refine ⟨j1, by omega, ?_⟩
    unfold o_P
    rw [d1, d2, d3, show (1 : Int) + ((j - 1 : Nat) : Int) = (j : Int) by omega]
    exact j3
  · rintro ⟨j1, j2, j3⟩
    obtain ⟨d1, d2, d3⟩ := o_div (a := a) hb (c := j - 1) (by omega)
    refine ⟨j1, by omega, ?_⟩
    unfold o_P at j3
    rw [d1, d2, d3, show (1 : Int) + ((j - 1 : Nat) : Int) = (j : Int) by omega] at j3
    exact j3
/-- the class counts -/
theorem c_countAll {m : z_M} {g : z_g} {Q : q_V → q_S → Prop} {p : Int} {S : Nat} (h3 : x_many S = 3) (hF : t_F m p) (hE : t_E m 66 S) (p13 : p ≤ 13) (kk : ∀ m' c a, t_sam 68 68 m m' → z_cn (o_P p S) 0 ((p.toNat - 1) * (p.toNat - 1) * (p.toNat - 1)) c a → Q (.inl c) (z_st m' g)) : z_C 125 [.inr (.inr 0)] (z_st m g) Q := by
  have hp := hF.1
  have hp5 := z_pr_le hp
  have outer : ∀ (d a : Nat) (ai c fi : Int) (m3 : z_M) (da3 : q_V), p.toNat - 1 - a = d → ai = 1 + (a : Int) → a ≤ p.toNat - 1 → t_sam 68 68 m m3 → z_cn (o_P p S) 0 (a * (p.toNat - 1) * (p.toNat - 1)) c fi → z_T 125 4 [.inr (.inr 0), .inl c, .inl ai, da3] [] (z_st m3 g) Q := by
    intro d
    induction d with
    | zero =>
      intro a ai c fi m3 da3 hd hai han q1 hc
      have ha : a = p.toNat - 1 := by omega
      refine y_125_4 ?_
      rw [q1 29 0 (by omega), hF.2.1]
      refine ⟨(by unfold z_ok2; omega), fun _ => kk m3 c fi q1 (by rw [ha] at hc; exact hc), (fun h => absurd h (by omega))⟩
    | succ d ih =>
      intro a ai c fi m3 da3 hd hai han q1 hc
      have inner : ∀ (d2 b : Nat) (bi c fi : Int) (m4 : z_M), p.toNat - 1 - b = d2 → bi = 1 + (b : Int) → b ≤ p.toNat - 1 → t_sam 68 68 m m4 → z_cn (o_P p S) 0 ((a * (p.toNat - 1) + b) * (p.toNat - 1)) c fi → z_T 125 11 [.inr (.inr 0), .inl c, .inl ai, .inl bi] [] (z_st m4 g) Q := by
        intro d2
        induction d2 with
        | zero =>
          intro b bi c fi m4 hd2 hbi hbn q4 hc4
          have hb : b = p.toNat - 1 := by omega
          refine y_125_11 ?_
          rw [q4 29 0 (by omega), hF.2.1]
          refine ⟨(by unfold z_ok2; omega), fun _ => ih (a + 1) (ai + 1) c fi m4 _ (by omega) (by omega) (by omega) q4 ?_, (fun h => absurd h (by omega))⟩
          rw [Nat.add_mul, Nat.one_mul]
          rw [hb] at hc4
          exact hc4
        | succ d2 ih2 =>
          intro b bi c fi m4 hd2 hbi hbn q4 hc4
          refine y_125_11 ?_
          rw [q4 29 0 (by omega), hF.2.1]
          refine ⟨(by unfold z_ok2; omega), (fun h => absurd h (by omega)), fun _ => c_thirds h3 (t_F_sam hF (by decide) q4) ⟨by rw [q4 66 1 (by omega)]; exact hE.1, fun k hk => by rw [q4 (66 + 1) k (by omega)]; exact hE.2 k hk⟩ p13 ⟨by omega, by omega⟩ ⟨by omega, by omega⟩ fun m5 T f5 hT => y_125_22 (c_bitCount rfl (by have := hT.1; omega) (y_125_23 ?_))⟩
          subst hai
          subst hbi
          obtain ⟨fi', hc'⟩ := o_block (by omega) (o_T_P hp (by omega) (by omega) hT) hc4
          refine ih2 (b + 1) _ _ fi' m5 (by omega) (by omega) (by omega) (fun x j h => by rw [f5 x j h]; exact q4 x j h) ?_
          rw [← Nat.add_assoc, Nat.add_mul _ 1, Nat.one_mul]
          exact hc'
      refine y_125_4 ?_
      rw [q1 29 0 (by omega), hF.2.1]
      refine ⟨(by unfold z_ok2; omega), (fun h => absurd h (by omega)), fun _ => inner (p.toNat - 1) 0 1 c fi m3 (by omega) rfl (by omega) q1 (by rw [Nat.add_zero]; exact hc)⟩
  refine y_125 (outer (p.toNat - 1) 0 1 0 (-5) m _ (by omega) rfl (by omega) (fun _ _ _ => rfl) ?_)
  rw [Nat.zero_mul, Nat.zero_mul]
  exact z_cn_0
theorem c_lowestBit {m : z_M} {g : z_g} {Q : q_V → q_S → Prop} {T : Nat} (h8 : T < 8192) (hn : ¬ T = 0) (kk : ∀ i : Nat, T.testBit i = true → (∀ j, j < i → ¬ T.testBit j = true) → Q (.inl (i : Int)) (z_st m g)) : z_C 128 [.inl (T : Int)] (z_st m g) Q := by
  have loop : ∀ (d k : Nat) (ki : Int), 32 - k = d → ki = (k : Int) → k ≤ 32 → (∀ j, j < k → ¬ T.testBit j = true) → z_T 128 2 [.inl (T : Int), .inl ki] [] (z_st m g) Q := by
    intro d
    induction d with
    | zero =>
      intro k ki hd hki hkn q
      refine absurd (Nat.eq_of_testBit_eq (x := T) (y := 0) fun i => ?_) hn
      rw [Nat.zero_testBit]
      by_cases hi : i < 32
      · have := q i (by omega)
        cases hb : T.testBit i with
        | false => rfl
        | true => exact absurd hb this
      · apply Nat.testBit_lt_two_pow
        have : 2 ^ 13 ≤ 2 ^ i := Nat.pow_le_pow_right (by decide) (by omega)
        omega
    | succ d ih =>
      intro k ki hd hki hkn q
      subst hki
      have hb := q_b_bit (a := T) (e := k) (by omega) (by omega)
      refine y_128_2 ⟨(by unfold z_ok2; omega), (fun h => absurd h (by omega)), fun _ => ?_⟩
      rw [hb]
      by_cases ht : T.testBit k = true
      · rw [if_pos ht]
        exact ⟨(by unfold z_ok2; omega), fun h => absurd rfl h, fun _ => kk k ht q⟩
      · rw [if_neg ht]
        exact ⟨(by unfold z_ok2; omega), fun _ => ih (k + 1) _ (by omega) (by omega) (by omega) (fun j hj => by
          by_cases hjk : j = k
          · rw [hjk]; exact ht
          · exact q j (by omega)), fun h => absurd h (by decide)⟩
  exact y_128 (loop 32 0 0 rfl rfl (by omega) (fun j hj => absurd hj (by omega)))
/-- the class's first -/
theorem c_firstAll {m : z_M} {g : z_g} {Q : q_V → q_S → Prop} {p : Int} {S : Nat} (h3 : x_many S = 3) (hF : t_F m p) (hE : t_E m 66 S) (p13 : p ≤ 13) (kk : ∀ m' v, t_sam 68 68 m m' → z_f1 (o_P p S) (o_val p) ((p.toNat - 1) * (p.toNat - 1) * (p.toNat - 1)) v → Q (.inl v) (z_st m' g)) : z_C 127 [.inr (.inr 0)] (z_st m g) Q := by
  have hp := hF.1
  have hp5 := z_pr_le hp
  have outer : ∀ (d a : Nat) (ai : Int) (m3 : z_M) (da2 da3 : q_V), p.toNat - 1 - a = d → ai = 1 + (a : Int) → a ≤ p.toNat - 1 → t_sam 68 68 m m3 → (∀ j, j < a * (p.toNat - 1) * (p.toNat - 1) → ¬ o_P p S j) → z_T 127 2 [.inr (.inr 0), .inl ai, da2, da3] [] (z_st m3 g) Q := by
    intro d
    induction d with
    | zero =>
      intro a ai m3 da2 da3 hd hai han q1 hc
      have ha : a = p.toNat - 1 := by omega
      refine y_127_2 ?_
      rw [q1 29 0 (by omega), hF.2.1]
      refine ⟨(by unfold z_ok2; omega), fun _ => kk m3 (-5) q1 (Or.inr ⟨by rw [ha] at hc; exact hc, rfl⟩), (fun h => absurd h (by omega))⟩
    | succ d ih =>
      intro a ai m3 da2 da3 hd hai han q1 hc
      have inner : ∀ (d2 b : Nat) (bi : Int) (m4 : z_M) (da3 : q_V), p.toNat - 1 - b = d2 → bi = 1 + (b : Int) → b ≤ p.toNat - 1 → t_sam 68 68 m m4 → (∀ j, j < (a * (p.toNat - 1) + b) * (p.toNat - 1) → ¬ o_P p S j) → z_T 127 9 [.inr (.inr 0), .inl ai, .inl bi, da3] [] (z_st m4 g) Q := by
        intro d2
        induction d2 with
        | zero =>
          intro b bi m4 da3 hd2 hbi hbn q4 hc4
          have hb : b = p.toNat - 1 := by omega
          refine y_127_9 ?_
          rw [q4 29 0 (by omega), hF.2.1]
          refine ⟨(by unfold z_ok2; omega), fun _ => ih (a + 1) (ai + 1) m4 _ _ (by omega) (by omega) (by omega) q4 ?_, (fun h => absurd h (by omega))⟩
          rw [Nat.add_mul, Nat.one_mul]
          rw [hb] at hc4
          exact hc4
        | succ d2 ih2 =>
          intro b bi m4 da3 hd2 hbi hbn q4 hc4
          refine y_127_9 ?_
          rw [q4 29 0 (by omega), hF.2.1]
          refine ⟨(by unfold z_ok2; omega), (fun h => absurd h (by omega)), fun _ => c_thirds h3 (t_F_sam hF (by decide) q4) ⟨by rw [q4 66 1 (by omega)]; exact hE.1, fun k hk => by rw [q4 (66 + 1) k (by omega)]; exact hE.2 k hk⟩ p13 ⟨by omega, by omega⟩ ⟨by omega, by omega⟩ fun m5 T f5 hT => y_127_19 ?_⟩
          subst hai
          subst hbi
          have hTP := o_T_P hp (by omega) (by omega) hT
          have h8 := hT.1
          have q5 : t_sam 68 68 m m5 := fun x j h => by rw [f5 x j h]; exact q4 x j h
          refine ⟨(by unfold z_ok; omega), fun h0 => ?_, fun h0 => ?_⟩
          · refine ih2 (b + 1) _ m5 _ (by omega) (by omega) (by omega) q5 ?_
            rw [← Nat.add_assoc, Nat.add_mul _ 1, Nat.one_mul]
            intro j hj hP
            by_cases hjK : j < (a * (p.toNat - 1) + b) * (p.toNat - 1)
            · exact hc4 j hjK hP
            · have hT0 : T = 0 := by omega
              have := (hTP (j - (a * (p.toNat - 1) + b) * (p.toNat - 1) + 1)).2 ⟨by omega, by omega, by rw [Nat.add_sub_cancel, Nat.add_sub_cancel' (by omega)]; exact hP⟩
              rw [hT0, Nat.zero_testBit] at this
              exact absurd this (by decide)
          · refine c_lowestBit h8 (by omega) fun i hi hlow => y_127_31 (kk m5 _ q5 (Or.inl ⟨(a * (p.toNat - 1) + b) * (p.toNat - 1) + (i - 1), ?_, ((hTP i).1 hi).2.2, fun j hj hP => ?_, ?_⟩))
            · have := (hTP i).1 hi
              have e1 : (a * (p.toNat - 1) + b) * (p.toNat - 1) + (i - 1) < (a * (p.toNat - 1) + b + 1) * (p.toNat - 1) := by rw [Nat.add_mul _ 1, Nat.one_mul]; omega
              have e2 : a * (p.toNat - 1) + b + 1 ≤ (a + 1) * (p.toNat - 1) := by rw [Nat.add_mul, Nat.one_mul]; omega
              have e3 : (a + 1) * (p.toNat - 1) ≤ (p.toNat - 1) * (p.toNat - 1) := Nat.mul_le_mul_right _ (by omega)
              exact Nat.lt_of_lt_of_le e1 (Nat.mul_le_mul_right _ (Nat.le_trans e2 e3))
            · by_cases hjK : j < (a * (p.toNat - 1) + b) * (p.toNat - 1)
              · exact hc4 j hjK hP
              · have := (hTP i).1 hi
                exact hlow (j - (a * (p.toNat - 1) + b) * (p.toNat - 1) + 1) (by omega) ((hTP _).2 ⟨by omega, by omega, by rw [Nat.add_sub_cancel, Nat.add_sub_cancel' (by omega)]; exact hP⟩)
            · have := (hTP i).1 hi
              obtain ⟨d1, d2', d3⟩ := o_div (q := p.toNat - 1) (a := a) (b := b) (c := i - 1) (by omega) (by omega)
              unfold o_val
              rw [d1, d2', d3]
              omega
      refine y_127_2 ?_
      rw [q1 29 0 (by omega), hF.2.1]
      refine ⟨(by unfold z_ok2; omega), (fun h => absurd h (by omega)), fun _ => inner (p.toNat - 1) 0 1 m3 _ (by omega) rfl (by omega) q1 (by rw [Nat.add_zero]; exact hc)⟩
  refine y_127 (outer (p.toNat - 1) 0 1 m _ _ (by omega) rfl (by omega) (fun _ _ _ => rfl) ?_)
  rw [Nat.zero_mul, Nat.zero_mul]
  exact fun j hj => absurd hj (by omega)
