/-! PAIRS: formed -/
theorem q_lb_xor_neg (x y : Int) : q_lbin 5 x y < 0 ↔ ¬ (q_wl x < 0 ↔ q_wl y < 0) := by
  have h : ∀ a : Int64, (a.toInt < 0 ↔ a.toBitVec.msb = true) := fun a => by
    rw [BitVec.msb_eq_toInt, decide_eq_true_eq]
    exact Iff.rfl
  show (Int64.ofInt x ^^^ Int64.ofInt y).toInt < 0 ↔ ¬ ((Int64.ofInt x).toInt < 0 ↔ (Int64.ofInt y).toInt < 0)
  rw [h, h, h, Int64.toBitVec_xor, BitVec.msb_xor]
  cases (Int64.ofInt x).toBitVec.msb <;> cases (Int64.ofInt y).toBitVec.msb <;> simp
theorem q_lbin_rng (a : Nat) (ha : a = 4 ∨ a = 5) (x y : Int) : z_okl (q_lbin a x y) := by
  rcases ha with rfl | rfl
  · exact ⟨Int64.le_toInt _, Int64.toInt_lt _⟩
  · exact ⟨Int64.le_toInt _, Int64.toInt_lt _⟩
theorem c_lmod {m : z_M} {g : z_g} {Q : q_V → q_S → Prop} {v p : Int} (hv : z_okl v) (h3 : 0 < p) (h4 : p < 2147483648) (k : Q (.inr (.inl (v % p))) (z_st m g)) : z_C 100 [.inr (.inl v), .inr (.inl p)] (z_st m g) Q := by
  have hv' := hv
  unfold z_okl at hv'
  obtain ⟨f1, f2, f3⟩ := q_fm0 (v := v) h3
  have hx := q_lb_xor_neg v p
  rw [q_wl_id hv'.1 hv'.2, q_wl_id (v := p) (by omega) (by omega)] at hx
  have hr := q_lbin_rng 5 (Or.inr rfl) v p
  unfold z_okl at hr
  refine y_100 ⟨⟨by omega, by omega, by omega, by omega⟩, by unfold z_okl2; omega, by (split <;> first | (unfold z_ok; omega) | (split <;> (unfold z_ok; omega))), fun h => ?_, fun h => ⟨by unfold z_okl2; omega, by (split <;> first | (unfold z_ok; omega) | (split <;> (unfold z_ok; omega))), fun h5 => ?_, fun h5 => ?_⟩⟩
  · have hx2 : ¬ q_lbin 5 v p < 0 := fun h6 => by rw [if_pos h6] at h; omega
    rw [hx] at hx2
    rw [q_fm1 (by omega)]
    exact k
  · have hx2 : q_lbin 5 v p < 0 := by
      by_cases h6 : q_lbin 5 v p < 0
      · exact h6
      · rw [if_neg h6] at h; split at h <;> omega
    rw [hx] at hx2
    have hv0 : v < 0 := by omega
    have h0 : v.tmod p = 0 := by
      split at h5
      · omega
      · split at h5
        · assumption
        · omega
    rw [q_fm2 h3 hv0, if_pos h0] at k
    rw [h0]
    exact k
  · have hx2 : q_lbin 5 v p < 0 := by
      by_cases h6 : q_lbin 5 v p < 0
      · exact h6
      · rw [if_neg h6] at h; split at h <;> omega
    rw [hx] at hx2
    have hv0 : v < 0 := by omega
    have h0 : ¬ v.tmod p = 0 := fun h7 => h5 (by rw [h7]; decide)
    rw [q_fm2 h3 hv0, if_neg h0] at k
    exact k
/-- the number of exponent k of a form from a list -/
def f_tot (p : Int) (S : Nat) (l : Nat → Int) (k : Nat) : Nat → Int
  | 0 => 0
  | i + 1 => (f_tot p S l k i + (l i % p) * x_rel S i k) % p
def f_val (p : Int) (S : Nat) (l : Nat → Int) (x : Int) (k : Nat) : Int := f_tot p S l k (x_many S - 2) * z_inv p (x ^ x_at S k % p) % p
theorem f_tot_rng {p : Int} {S : Nat} {l : Nat → Int} {k i : Nat} (hp : z_pr p) : 0 ≤ f_tot p S l k i ∧ f_tot p S l k i < p := by
  have hp5 := z_pr_le hp
  cases i with
  | zero => unfold f_tot; omega
  | succ i => exact z_m0 (by omega)
theorem f_mul {p a r : Int} (h : 0 ≤ a ∧ a < p) (hp : p ≤ 31) (hr : -12 ≤ r ∧ r ≤ 12) : -372 ≤ a * r ∧ a * r ≤ 372 := by
  obtain ⟨A, rfl⟩ := Int.eq_ofNat_of_zero_le h.1
  have h1 : (A : Int) * r ≤ A * 12 := Int.mul_le_mul_of_nonneg_left hr.2 (by omega)
  have h2 : (A : Int) * (-12) ≤ A * r := Int.mul_le_mul_of_nonneg_left hr.1 (by omega)
  omega
theorem c_listAt {m : z_M} {g : z_g} {Q : q_V → q_S → Prop} {a b : Int} (ha : z_ok a) (hb : z_ok b) (hL : i_L m) (a0 : 0 ≤ a) (a1 : a < 4) (b0 : 0 ≤ b) (b1 : b < m 120 a.toNat) (k : Q (.inr (.inl (m (116 + a.toNat) b.toNat))) (z_st m g)) : z_C 97 [.inr (.inr 114), .inl a, .inl b] (z_st m g) Q := by
  have hr := (hL a.toNat (by omega)).2.1
  have el : r_len m a = m 120 a.toNat := if_pos ⟨a0, a1⟩
  exact y_97 (c_isPlace ha hb hL (fun _ _ => y_97_4 ⟨(by unfold z_ok; omega), (fun h => absurd h (by omega)), fun _ => ⟨z_rw115 a0 a1, z_sp115 a1, ⟨by omega, by omega⟩, k⟩⟩) (fun h => absurd ⟨b0, by omega⟩ h))
theorem f_val_mul {p : Int} {S : Nat} {l : Nat → Int} {k : Nat} {y : Int} (hp : z_pr p) : 0 ≤ f_tot p S l k (x_many S - 2) * z_inv p y ∧ f_tot p S l k (x_many S - 2) * z_inv p y ≤ 961 := by
  have hp5 := z_pr_le hp
  obtain ⟨t0, t1⟩ := f_tot_rng (S := S) (l := l) (k := k) (i := x_many S - 2) hp
  obtain ⟨i0, i1⟩ := z_inv_rng (x := y) hp
  refine ⟨Int.mul_nonneg t0 i0, ?_⟩
  have h1 : f_tot p S l k (x_many S - 2) * z_inv p y ≤ 31 * z_inv p y := Int.mul_le_mul_of_nonneg_right (by omega) i0
  omega
/-- the class: numbers of a form into place 130 -/
theorem c_formNumbers {m : z_M} {g : z_g} {Q : q_V → q_S → Prop} {S : Nat} {l : Nat → Int} {a x : Int} (hC : i_C m) (hL : i_L m) (hS : x_V S) (hE : t_E m 63 S) (hx0 : 1 ≤ x) (hx1 : x < s_p m) (ha : z_ok a) (ha0 : 0 ≤ a) (ha1 : a < 4) (hl : (x_many S : Int) - 2 ≤ m 120 a.toNat) (hll : ∀ i, i < 20 → m (116 + a.toNat) i = l i) (kk : ∀ m', (∀ b j, (b < 29 ∨ 62 < b) → ¬ b = 130 → m' b j = m b j) → i_T m' → (∀ k, k < x_many S → m' 130 (x_at S k) = f_val (s_p m) S l x k) → (∀ e, e < 13 → (∀ k, k < x_many S → ¬ x_at S k = e) → m' 130 e = 0) → Q q_dead (z_st m' g)) : z_C 96 [.inr (.inr 0), .inl x, .inl a] (z_st m g) Q := by
  obtain ⟨s1, s2, s3⟩ := hS
  have hV := hC.1
  have hp := s_p_pr hV
  have hp5 := z_pr_le hp
  refine y_96 (c_modulus' hC (y_96_5 ?_))
  generalize s_p m = p at hp hp5 hx1 kk
  refine c_fbecome hp hC.2.1 fun m1 f1 hF => y_96_6 (c_fillI (n := 14) (by decide) rfl (by decide) (y_96_10 ?_))
  have f2 : ∀ b j, (b < 29 ∨ 62 < b) → ¬ b = 130 → f_fill m1 130 14 0 b j = m b j := fun b j h1 h2 => by
    unfold f_fill
    rw [if_neg (by omega)]
    exact f1 b j h1
  have f3 : ∀ e, e < 14 → f_fill m1 130 14 0 130 e = 0 := fun e he => by
    unfold f_fill
    rw [if_pos ⟨rfl, he⟩]
  have hF2 : t_F (f_fill m1 130 14 0) p := t_F_sam (b := 130) (h := 130) hF (by decide) (fun b j h => by unfold f_fill; rw [if_neg (by omega)])
  generalize f_fill m1 130 14 0 = m2 at f2 f3 hF2
  have outer : ∀ (d k : Nat) (ki : Int) (m3 : z_M) (da4 da5 da6 : q_V), x_many S - k = d → ki = (k : Int) → k ≤ x_many S → t_sam 130 130 m2 m3 → (∀ i, i < k → m3 130 (x_at S i) = f_val p S l x i) → (∀ e, e < 13 → (∀ i, i < k → ¬ x_at S i = e) → m3 130 e = 0) → z_T 96 12 [.inr (.inr 0), .inl x, .inl a, .inl ki, da4, da5, da6] [] (z_st m3 g) Q := by
    intro d
    induction d with
    | zero =>
      intro k ki m3 da4 da5 da6 hd hki hkn q1 q2 q3
      have hE3 : m3 63 1 = (x_many S : Int) := by rw [q1 63 1 (by omega), f2 63 1 (by omega) (by omega)]; exact hE.1
      refine y_96_12 ?_
      rw [hE3]
      have hkk : k = x_many S := by omega
      subst hkk
      exact ⟨(by unfold z_ok2; omega), fun _ => kk m3 (fun b j h1 h2 => by rw [q1 b j (by omega), f2 b j h1 h2]) (Or.inr ⟨p, t_F_sam hF2 (by decide) q1⟩) q2 q3, (fun h => absurd h (by omega))⟩
    | succ d ih =>
      intro k ki m3 da4 da5 da6 hd hki hkn q1 q2 q3
      have F3 : ∀ b j, (b < 29 ∨ 62 < b) → ¬ b = 130 → m3 b j = m b j := fun b j h1 h2 => by rw [q1 b j (by omega), f2 b j h1 h2]
      have hE3 : t_E m3 63 S := ⟨by rw [F3 63 1 (by omega) (by omega)]; exact hE.1, fun i hi => by rw [F3 (63 + 1) _ (by omega) (by omega)]; exact hE.2 i hi⟩
      have hF3 := t_F_sam hF2 (by decide) q1
      have hL3 : i_L m3 := i_L_of (fun b j h => F3 b j (by omega) (by omega)) hL
      have hk : k < x_many S := by omega
      have inner : ∀ (c i : Nat) (ii : Int) (da6' : q_V), x_many S - 2 - i = c → ii = (i : Int) → i ≤ x_many S - 2 → z_T 96 21 [.inr (.inr 0), .inl x, .inl a, .inl ki, .inl (f_tot p S l k i), .inl ii, da6'] [] (z_st m3 g) Q := by
        intro c
        induction c with
        | zero =>
          intro i ii da6' hc hii hin
          have hin' : i = x_many S - 2 := by omega
          subst hin'
          refine y_96_21 (c_rels_a s2 s3 hE3 (y_96_25 ⟨(by unfold z_ok2; omega), fun _ => ?_, (fun h => absurd h (by omega))⟩))
          refine c_eat_a s3 hE3 (by omega) (by omega) (y_96_54 ?_)
          rw [show ki.toNat = k by omega]
          have hat := x_at_le hk
          have hpw := z_m0 (p := p) (a := x ^ x_at S k) (by omega)
          have hmul := f_val_mul (S := S) (l := l) (k := k) (y := x ^ x_at S k % p) hp
          refine c_power hF3 (by omega) hx1 (by omega) (by omega) ?_
          rw [show ((x_at S k : Int)).toNat = x_at S k by omega]
          refine y_96_67 (c_over hF3 hpw.1 hpw.2 (y_96_68 (c_product hp hF3.2.1 (by unfold z_ok; omega) (y_96_69 (y_102 ⟨(by unfold z_ok; omega), (fun h => absurd h (by omega)), fun _ => ⟨(by unfold z_ok2; omega), (fun h => absurd h (by omega)), fun _ => ⟨⟨by omega, by omega⟩, y_96_70 (ih (k + 1) (ki + 1) _ _ _ _ (by omega) (by omega) (by omega) (fun b j h => by rw [z_un (by omega)]; exact q1 b j h) (fun i hi => ?_) (fun e he hno => ?_))⟩⟩⟩)))))
          · rw [show ((x_at S k : Int)).toNat = x_at S k by omega]
            by_cases hik : i = k
            · subst hik
              rw [z_ue rfl rfl]
              rfl
            · rw [z_un (fun h => hik (x_at_inj (by omega) hk h.2))]
              exact q2 i (by omega)
          · rw [z_un (fun h => hno k (by omega) (by omega))]
            exact q3 e he (fun i hi => hno i (by omega))
        | succ c ihc =>
          intro i ii da6' hc hii hin
          refine y_96_21 (c_rels_a s2 s3 hE3 (y_96_25 ⟨(by unfold z_ok2; omega), (fun h => absurd h (by omega)), fun _ => ?_⟩))
          have hmax := (hL a.toNat (by omega)).2.1
          have hL3a := (hL3 a.toNat (by omega)).2.2.2 i (by omega)
          refine c_listAt ha (by unfold z_ok; omega) hL3 ha0 ha1 (by omega) (by rw [F3 120 _ (by omega) (by omega)]; omega) (y_96_33 ?_)
          have ev : m3 (116 + a.toNat) ii.toNat = l i := by rw [F3 _ _ (by omega) (by omega), show ii.toNat = i by omega]; exact hll i (by omega)
          have hok : z_okl (l i) := by
            have := hL3a.2
            rw [F3 _ _ (by omega) (by omega), hll i (by omega)] at this
            exact this
          rw [ev]
          refine y_99 ?_
          rw [hF3.2.1]
          refine ⟨(by unfold z_ok2; omega), fun _ => ⟨(by unfold z_ok; omega), c_lmod hok (by omega) (by omega) (y_99_11 (y_96_34 ?_))⟩, (fun h => absurd h (by omega))⟩
          have hlm := z_m0 (p := p) (a := l i) (by omega)
          have htr := f_tot_rng (S := S) (l := l) (k := k) (i := i) hp
          refine c_rel_a s3 hE3 (by omega) (by omega) (by omega) (by omega) (y_96_44 ?_)
          rw [show ii.toNat = i by omega, show ki.toNat = k by omega]
          have hrl := x_rel_ok (S := S) (i := i) (k := k) (by omega)
          have hfm := f_mul hlm hp5.2 hrl
          exact c_mod' hp hF3.2.1 (by unfold z_ok; omega) (y_96_47 (ihc (i + 1) (ii + 1) _ (by omega) (by omega) (by omega)))
      refine y_96_12 ?_
      rw [hE3.1]
      exact ⟨(by unfold z_ok2; omega), (fun h => absurd h (by omega)), fun _ => inner (x_many S - 2) 0 0 _ (by omega) rfl (by omega)⟩
  exact outer (x_many S) 0 0 m2 _ _ _ rfl rfl (by omega) (fun _ _ _ => rfl) (fun i hi => absurd hi (by omega)) (fun e he _ => f3 e (by omega))
/-- the model: numbers of a form into the row of sum n -/
theorem n_formNumbers {m : z_M} {g : z_g} {Q : q_V → q_S → Prop} {S : Nat} {l : Nat → Int} {a b x p n : Int} (hP : n_P m p) (hS : x_V S) (hx : z_ok x) (ha0 : 0 ≤ a) (ha1 : a < 4) (n0 : 0 ≤ n) (n6 : n < 6) (h20 : (x_many S : Int) - 2 ≤ 20) (hll : ∀ i, i < 20 → m 162 (20 * a.toNat + i) = l i ∧ z_okl (l i)) {w4 w5 : Int} (e4 : w4 = (S : Int)) (e5 : w5 = (x_many S : Int) - 2) (kk : ∀ m', (∀ c j, ¬ (c = 137 ∧ 13 * n.toNat ≤ j ∧ j < 13 * n.toNat + 13) → m' c j = m c j) → (∀ k, k < x_many S → m' 137 (13 * n.toNat + x_at S k) = f_val p S l x k) → (∀ e, e < 13 → (∀ k, k < x_many S → ¬ x_at S k = e) → m' 137 (13 * n.toNat + e) = m 137 (13 * n.toNat + e)) → Q (.inl n) (z_st m' g)) : z_T 240 54 [.inr (.inr 131), .inl b, .inl x, .inl a, .inl w4, .inl w5, q_dead, q_dead, q_dead, q_dead, q_dead] [.inl n] (z_st m g) Q := by
  subst e4 e5
  obtain ⟨s1, s2, s3⟩ := hS
  have hp := hP.1
  have hp5 := z_pr_le hp
  have outer : ∀ (d k : Nat) (ki : Int) (m3 : z_M) (da8 da9 da10 : q_V), x_many S - k = d → ki = (k : Int) → k ≤ x_many S → (∀ c j, ¬ (c = 137 ∧ 13 * n.toNat ≤ j ∧ j < 13 * n.toNat + 13) → m3 c j = m c j) → (∀ i, i < k → m3 137 (13 * n.toNat + x_at S i) = f_val p S l x i) → (∀ e, e < 13 → (∀ i, i < k → ¬ x_at S i = e) → m3 137 (13 * n.toNat + e) = m 137 (13 * n.toNat + e)) → z_T 240 57 [.inr (.inr 131), .inl b, .inl x, .inl a, .inl (S : Int), .inl ((x_many S : Int) - 2), .inl n, .inl ki, da8, da9, da10] [] (z_st m3 g) Q := by
    intro d
    induction d with
    | zero =>
      intro k ki m3 da8 da9 da10 hd hki hkn q1 q2 q3
      have hkk : k = x_many S := by omega
      subst hkk
      exact y_240_57 (n_many (by omega) (y_240_60 ⟨(by unfold z_ok2; omega), fun _ => kk m3 q1 q2 q3, (fun h => absurd h (by omega))⟩))
    | succ d ih =>
      intro k ki m3 da8 da9 da10 hd hki hkn q1 q2 q3
      have hk : k < x_many S := by omega
      have hP3 : n_P m3 p := ⟨hP.1, by rw [q1 131 1 (by omega)]; exact hP.2.1, by rw [q1 131 1 (by omega)]; exact hP.2.2.1, by rw [q1 131 1 (by omega), q1 132 _ (by omega)]; exact hP.2.2.2⟩
      have hat := x_at_le hk
      have inner : ∀ (c i : Nat) (ii : Int), x_many S - 2 - i = c → ii = (i : Int) → i ≤ x_many S - 2 → z_T 240 69 [.inr (.inr 131), .inl b, .inl x, .inl a, .inl (S : Int), .inl ((x_many S : Int) - 2), .inl n, .inl ki, .inl (x_at S k : Int), .inl (f_tot p S l k i), .inl ii] [] (z_st m3 g) Q := by
        intro c
        induction c with
        | zero =>
          intro i ii hc hii hin
          have hin' : i = x_many S - 2 := by omega
          subst hin'
          have hpw := z_m0 (p := p) (a := x ^ x_at S k) (by omega)
          have hmul := f_val_mul (S := S) (l := l) (k := k) (y := x ^ x_at S k % p) hp
          refine y_240_69 ⟨(by unfold z_ok2; omega), fun _ => n_power hP3 hx (by omega) (by omega) (y_240_110 ?_), (fun h => absurd h (by omega))⟩
          rw [show ((x_at S k : Int)).toNat = x_at S k by omega]
          refine n_over hP3 (by unfold z_ok; omega) (y_240_111 (n_p hP3 (y_240_114 ⟨⟨by omega, by omega, by omega, by omega⟩, ⟨by omega, by omega⟩, ih (k + 1) (ki + 1) _ _ _ _ (by omega) (by omega) (by omega) (fun c j h => by rw [z_un (by omega)]; exact q1 c j h) (fun i hi => ?_) (fun e he hno => ?_)⟩)))
          · rw [show ((13 * n + (x_at S k : Int))).toNat = 13 * n.toNat + x_at S k by omega]
            by_cases hik : i = k
            · subst hik
              rw [z_ue rfl rfl]
              rfl
            · rw [z_un (fun h => hik (x_at_inj (by omega) hk (by omega)))]
              exact q2 i (by omega)
          · rw [z_un (fun h => hno k (by omega) (by omega))]
            exact q3 e he (fun i hi => hno i (by omega))
        | succ c ihc =>
          intro i ii hc hii hin
          obtain ⟨ev, hok⟩ := hll i (by omega)
          have hok' := hok
          unfold z_okl at hok'
          obtain ⟨f1, f2, f3⟩ := q_fm0 (v := l i) (p := p) (by omega)
          refine y_240_69 ⟨(by unfold z_ok2; omega), (fun h => absurd h (by omega)), fun _ => ⟨⟨by omega, by omega⟩, n_p hP3 (y_240_84 ⟨(by unfold z_ok; omega), ?_⟩)⟩⟩
          rw [show (20 * a + ii).toNat = 20 * a.toNat + i by omega, q1 162 _ (by omega), ev]
          refine ⟨⟨by omega, by omega, by omega, by omega⟩, n_relationOf (by omega) (by omega) (by omega) hk (y_240_91 ?_)⟩
          rw [show ii.toNat = i by omega]
          have htr := f_tot_rng (S := S) (l := l) (k := k) (i := i) hp
          have hrl := x_rel_ok (S := S) (i := i) (k := k) (by omega)
          have hb : -400 ≤ (l i).tmod p * x_rel S i k ∧ (l i).tmod p * x_rel S i k ≤ 400 := by
            by_cases h0 : 0 ≤ (l i).tmod p
            · have := f_mul (p := p) ⟨h0, f1⟩ hp5.2 hrl
              omega
            · have := f_mul (p := p) (a := -(l i).tmod p) ⟨by omega, by omega⟩ hp5.2 hrl
              rw [Int.neg_mul] at this
              omega
          refine n_rest hP3 (by unfold z_ok; omega) (y_240_94 ?_)
          have e : (f_tot p S l k i + (l i).tmod p * x_rel S i k) % p = f_tot p S l k (i + 1) := by
            show _ = (f_tot p S l k i + (l i % p) * x_rel S i k) % p
            rw [Int.add_emod, Int.mul_emod, Int.add_emod (f_tot p S l k i), Int.mul_emod (l i % p)]
            rw [Int.emod_emod, show (l i).tmod p % p = l i % p from ?_]
            have e2 := Int.tmod_add_mul_tdiv (l i) p
            rw [← e2, Int.add_mul_emod_self_left, e2]
          rw [e]
          exact ihc (i + 1) (ii + 1) (by omega) (by omega) (by omega)
      refine y_240_57 (n_many (by omega) (y_240_60 ⟨(by unfold z_ok2; omega), (fun h => absurd h (by omega)), fun _ => n_exponent (by omega) (by omega) (by omega) (y_240_64 ?_)⟩))
      rw [show ki.toNat = k by omega]
      exact inner (x_many S - 2) 0 0 (by omega) rfl (by omega)
  exact y_240_54 (outer (x_many S) 0 0 m _ _ _ rfl rfl (by omega) (fun _ _ _ => rfl) (fun i hi => absurd hi (by omega)) (fun e he _ => rfl))
