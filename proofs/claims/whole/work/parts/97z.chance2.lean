/-! PAIRS: chance, the model and the pair -/
theorem u_N_gone {p : Int} {S T : Nat} {N : Nat → Int} (hN : x_N p S N) (hT : T < 2 ^ x_many S) {f : Nat → Int} (hf : ∀ e, e < 13 → f e = N e ∨ f e = 0) (h1 : ∀ k, k < x_many S → (T.testBit k = true → f (x_at S k) = 0) ∧ (¬ T.testBit k = true → f (x_at S k) = N (x_at S k))) : ∀ e, e < 13 → f e = u_N S N (2 ^ x_many S - (T + 1)) e := by
  intro e he
  by_cases hb : S.testBit e = true
  · obtain ⟨k, hk, ek⟩ := x_at_ex he hb
    have h2 := h1 k hk
    rw [← ek, u_N_at hk, Nat.testBit_two_pow_sub_succ hT]
    by_cases ht : T.testBit k = true
    · rw [h2.1 ht, ht, if_neg (by simp)]
    · have hf' : T.testBit k = false := by
        cases h : T.testBit k with
        | false => rfl
        | true => exact absurd h ht
      rw [h2.2 ht, hf', if_pos (by simp [hk])]
  · have h0 := hN.2 e (Or.inr hb)
    have h2 := hf e he
    rw [h0] at h2
    unfold u_N
    rw [h0]
    split <;> omega
theorem u_bit_t {T n k : Nat} (hT : T < 2 ^ n) (hk : k < n) (h : T.testBit k = true) : ¬ (2 ^ n - (T + 1)).testBit k = true := by
  rw [Nat.testBit_two_pow_sub_succ hT, h]
  simp
theorem u_bit_f {T n k : Nat} (hT : T < 2 ^ n) (hk : k < n) (h : ¬ T.testBit k = true) : (2 ^ n - (T + 1)).testBit k = true := by
  rw [Nat.testBit_two_pow_sub_succ hT]
  cases hb : T.testBit k with
  | true => exact absurd hb h
  | false => simp [hk]
/-- the model: above the line -/
theorem n_chanceUp {m : z_M} {g : z_g} {Q : q_V → q_S → Prop} {p s t w dn : Int} {S : Nat} {kd fg : Int} {T0 : Nat → Int} (hS : n_S m s p S kd fg T0) (t2 : 2 ≤ t) (t20 : t ≤ 20) (kk : ∀ m' da11 da13, (∀ a j, ¬ a = 138 → m' a j = m a j) → z_T 262 41 [.inr (.inr 131), .inl s, .inl t, .inl w, .inl (S : Int), .inl (x_many S : Int), .inr (.inl (z_sum (u_h p S (n_at p S kd fg T0) (t - 1)) (2 ^ x_many S))), q_dead, .inr (.inl dn), q_dead, .inl ((2 ^ x_many S : Nat) : Int), da11, q_dead, da13] [] (z_st m' g) Q) : z_T 262 41 [.inr (.inr 131), .inl s, .inl t, .inl w, .inl (S : Int), .inl (x_many S : Int), .inr (.inl 0), q_dead, .inr (.inl dn), q_dead, .inl 0, q_dead, q_dead, q_dead] [] (z_st m g) Q := by
  have hP := hS.1
  have hSV := hS.2.2.2.2.1
  obtain ⟨s1, s2, s3⟩ := hSV
  obtain ⟨e2, b64⟩ := q_b_two s3
  have hN := n_at_N (S := S) (kd := kd) (fg := fg) (told := T0) hP.1
  have hp5 := z_pr_le hP.1
  have looks : ∀ (m3 : z_M) (Q' : q_V → q_S → Prop), (∀ a j, ¬ a = 138 → m3 a j = m a j) → (∀ m', (∀ a j, ¬ a = 138 → m' a j = m a j) → t_R m' 138 (n_at p S kd fg T0) → Q' q_dead (z_st m' g)) → z_C 213 [.inr (.inr 131), .inl s] (z_st m3 g) Q' := fun m3 Q' q h => n_looks (n_S_fr hS ⟨q 131 1 (by omega), fun a j _ _ => q a j (by omega)⟩) fun m' f r => h m' (fun a j ha => by rw [f a j ha]; exact q a j ha) r
  rw [← z_sum_rev] at kk
  generalize n_at p S kd fg T0 = N at hN kk looks
  have outer : ∀ (d T : Nat) (Ti : Int) (m3 : z_M) (d11 d13 : q_V), 2 ^ x_many S - T = d → Ti = (T : Int) → T ≤ 2 ^ x_many S → (∀ a j, ¬ a = 138 → m3 a j = m a j) → z_T 262 41 [.inr (.inr 131), .inl s, .inl t, .inl w, .inl (S : Int), .inl (x_many S : Int), .inr (.inl (z_sum (fun i => u_h p S N (t - 1) (2 ^ x_many S - (i + 1))) T)), q_dead, .inr (.inl dn), q_dead, .inl Ti, d11, q_dead, d13] [] (z_st m3 g) Q := by
    intro d
    induction d with
    | zero =>
      intro T Ti m3 d11 d13 hd hTi hTn q1
      have hT2 : T = 2 ^ x_many S := by omega
      subst hTi
      rw [hT2]
      exact kk m3 d11 d13 q1
    | succ d ih =>
      intro T Ti m3 d11 d13 hd hTi hTn q1
      subst hTi
      have hTlt : T < 2 ^ x_many S := by omega
      have inner : ∀ (d2 k : Nat) (ki : Int) (m4 : z_M), x_many S - k = d2 → ki = (k : Int) → k ≤ x_many S → (∀ a j, ¬ a = 138 → m4 a j = m a j) → (∀ e, e < 13 → m4 138 e = N e ∨ m4 138 e = 0) → (∀ i, i < x_many S → m4 138 (x_at S i) = if i < k ∧ T.testBit i = true then 0 else N (x_at S i)) → z_T 262 53 [.inr (.inr 131), .inl s, .inl t, .inl w, .inl (S : Int), .inl (x_many S : Int), .inr (.inl (z_sum (fun i => u_h p S N (t - 1) (2 ^ x_many S - (i + 1))) T)), q_dead, .inr (.inl dn), q_dead, .inl (T : Int), .inr (.inl (u_pw (t - 1) (2 ^ x_many S - (T + 1)) k)), q_dead, .inl ki] [] (z_st m4 g) Q := by
        intro d2
        induction d2 with
        | zero =>
          intro k ki m4 hd2 hki hkn w1 w2 w3
          have hk : k = x_many S := by omega
          subst hk
          have hR : t_R m4 138 (u_N S N (2 ^ x_many S - (T + 1))) := u_N_gone hN hTlt w2 (fun i hi => ⟨fun h => by rw [w3 i hi, if_pos ⟨hi, h⟩], fun h => by rw [w3 i hi, if_neg (fun hh => h hh.2)]⟩)
          refine y_262_53 ⟨(by unfold z_ok2; omega), fun _ => n_isDouble (n_P_fr hP ⟨w1 131 1 (by omega), fun a j _ _ => w1 a j (by omega)⟩) hR (fun i _ => (u_N_N hN).1 i) (fun hy => y_262_91 ⟨(by unfold z_ok; omega), (fun h => absurd h (by omega)), fun _ => ?_⟩) (fun hn => y_262_91 ⟨(by unfold z_ok; omega), fun _ => ?_, (fun h => absurd h (by omega))⟩), (fun h => absurd h (by omega))⟩
          · have := ih (T + 1) ((T : Int) + 1) m4 (.inr (.inl (u_pw (t - 1) (2 ^ x_many S - (T + 1)) (x_many S)))) (.inl ki) (by omega) (by omega) (by omega) w1
            have e : z_sum (fun i => u_h p S N (t - 1) (2 ^ x_many S - (i + 1))) (T + 1) = z_sum (fun i => u_h p S N (t - 1) (2 ^ x_many S - (i + 1))) T + u_pw (t - 1) (2 ^ x_many S - (T + 1)) (x_many S) := by
              show z_sum (fun i => u_h p S N (t - 1) (2 ^ x_many S - (i + 1))) T + u_h p S N (t - 1) (2 ^ x_many S - (T + 1)) = _
              rw [u_h_t hy]
            rw [e] at this
            exact this
          · have := ih (T + 1) ((T : Int) + 1) m4 (.inr (.inl (u_pw (t - 1) (2 ^ x_many S - (T + 1)) (x_many S)))) (.inl ki) (by omega) (by omega) (by omega) w1
            have e : z_sum (fun i => u_h p S N (t - 1) (2 ^ x_many S - (i + 1))) (T + 1) = z_sum (fun i => u_h p S N (t - 1) (2 ^ x_many S - (i + 1))) T + 0 := by
              show z_sum (fun i => u_h p S N (t - 1) (2 ^ x_many S - (i + 1))) T + u_h p S N (t - 1) (2 ^ x_many S - (T + 1)) = _
              rw [u_h_f hn]
            rw [e] at this
            exact this
        | succ d2 ih2 =>
          intro k ki m4 hd2 hki hkn w1 w2 w3
          subst hki
          have hk : k < x_many S := by omega
          have hle := x_at_le hk
          have hb := q_b_bit (a := T) (e := k) (by omega) (by omega)
          have tk : x_at S ((k : Int)).toNat = x_at S k := by rw [Int.toNat_natCast]
          refine y_262_53 ?_
          rw [hb]
          by_cases ht : T.testBit k = true
          · rw [if_pos ht]
            have go := ih2 (k + 1) ((k : Int) + 1) (q_upd m4 138 (x_at S k) 0) (by omega) (by omega) (by omega) (fun a j h => by rw [z_un (by omega)]; exact w1 a j h) (fun e he => by
              by_cases hek : e = x_at S k
              · rw [z_ue rfl hek]; exact Or.inr rfl
              · rw [z_un (by omega)]; exact w2 e he) (fun i hi => by
              by_cases hik : i = k
              · rw [hik, z_ue rfl rfl, if_pos ⟨by omega, ht⟩]
              · rw [z_un (fun h => hik (x_at_inj hi hk h.2)), w3 i hi]
                by_cases hc : i < k ∧ T.testBit i = true
                · rw [if_pos hc, if_pos ⟨by omega, hc.2⟩]
                · rw [if_neg hc, if_neg (fun h => hc ⟨by omega, h.2⟩)])
            have e : u_pw (t - 1) (2 ^ x_many S - (T + 1)) (k + 1) = u_pw (t - 1) (2 ^ x_many S - (T + 1)) k * 1 := by
              show (if (2 ^ x_many S - (T + 1)).testBit k = true then _ else _) = _
              rw [if_neg (u_bit_t hTlt hk ht), Int.mul_one]
            rw [e] at go
            refine ⟨(by unfold z_ok2; omega), (fun h => absurd h (by omega)), fun _ => ⟨(by unfold z_ok2; omega), fun h => absurd rfl h, fun _ => ⟨(by unfold z_ok2; omega), fun h => absurd rfl h, fun _ => n_exponent (by omega) (by omega) (by omega) (y_262_84 ⟨⟨by omega, by omega⟩, ?_⟩)⟩⟩⟩
            rw [show ((x_at S ((k : Int)).toNat : Int)).toNat = x_at S k from by rw [Int.toNat_natCast, Int.toNat_natCast]]
            exact go
          · rw [if_neg ht]
            have go := ih2 (k + 1) ((k : Int) + 1) m4 (by omega) (by omega) (by omega) w1 w2 (fun i hi => by
              rw [w3 i hi]
              by_cases hc : i < k ∧ T.testBit i = true
              · rw [if_pos hc, if_pos ⟨by omega, hc.2⟩]
              · rw [if_neg hc, if_neg (fun h => hc ⟨by
                  by_cases hik : i = k
                  · rw [hik] at h; exact absurd h.2 ht
                  · omega, h.2⟩)])
            have e : u_pw (t - 1) (2 ^ x_many S - (T + 1)) (k + 1) = u_pw (t - 1) (2 ^ x_many S - (T + 1)) k * (t - 1) := by
              show (if (2 ^ x_many S - (T + 1)).testBit k = true then _ else _) = _
              rw [if_pos (u_bit_f hTlt hk ht)]
            rw [e] at go
            exact ⟨(by unfold z_ok2; omega), (fun h => absurd h (by omega)), fun _ => ⟨(by unfold z_ok2; omega), fun _ => ⟨(by unfold z_ok; omega), (by unfold z_ok2; omega), fun _ => go, fun h => absurd h (by decide)⟩, fun h => absurd h (by decide)⟩⟩
      refine y_262_41 ?_
      rw [e2]
      refine ⟨(by unfold z_ok2; omega), (fun h => absurd h (by omega)), fun _ => looks m3 _ q1 fun m4 f4 r4 => y_262_51 (inner (x_many S) 0 0 m4 (by omega) rfl (by omega) f4 (fun e he => Or.inl (r4 e he)) (fun i hi => ?_))⟩
      rw [if_neg (fun h => absurd h.1 (by omega))]
      exact r4 _ (by have := x_at_le hi; omega)
  exact outer (2 ^ x_many S) 0 0 m _ _ (Nat.sub_zero _) rfl (Nat.zero_le _) (fun _ _ _ => rfl)
theorem u_pow_rng {t : Int} (h0 : 1 ≤ t) (h1 : t ≤ 20) : ∀ n : Nat, 1 ≤ t ^ n ∧ t ^ n ≤ 20 ^ n
  | 0 => ⟨by rw [Int.pow_zero]; decide, by rw [Int.pow_zero, Int.pow_zero]; decide⟩
  | n + 1 => by
    obtain ⟨g1, g2⟩ := u_pow_rng h0 h1 n
    have g3 : t ^ n * t ≤ 20 ^ n * 20 := Int.mul_le_mul g2 h1 (by omega) (by omega)
    have g4 : 1 * 1 ≤ t ^ n * t := Int.mul_le_mul g1 h0 (by omega) (by omega)
    rw [Int.pow_succ, Int.pow_succ]
    omega
theorem u_lc {s : Int} (h : 1 ≤ s) : (0 : Int) ≤ (if s < 1 then (-1 : Int) else if s = 1 then 0 else 1) ∧ z_ok (if s < 1 then (-1 : Int) else if s = 1 then 0 else 1) := by
  rw [if_neg (by omega)]
  split <;> exact ⟨by decide, by unfold z_ok; decide⟩
theorem p_chance {L : Nat} {m : z_M} {g : z_g} {s t w : Int} (hI : I L m g) (hs : z_ok s) (ht : z_ok t) (hw : z_ok w) : z_pL (I L) 131 262 [.inl s, .inl t, .inl w] m g := by
  have hC := hI.2.2.2.1
  have hZ := hI.2.2.2.2.1
  have hV := hC.1
  have hR := hI.2.2.2.2.2.1
  have v3 := hV.2.2.1
  have hp := s_p_pr hV
  have r8 : m 131 8 = m 1 3 := hR.1.2.2.1
  have mno : ¬ ((0 ≤ s ∧ s < m 1 3) ∧ (2 ≤ t ∧ t ≤ 20) ∧ 0 ≤ w ∧ w ≤ 1) → z_C 262 [.inr (.inr 131), .inl s, .inl t, .inl w] (z_st m g) (fun r' S'' => ∃ v' m2 g2, r' = .inr (.inl v') ∧ S'' = z_st m2 g2 ∧ q_wl (-9223372036854775808) = q_wl v' ∧ I L m2 g2) := fun hno =>
    y_262 (n_isSum hs r8 v3 (fun h0 h1 => y_262_3 ⟨(by unfold z_ok; omega), (fun h => absurd h (by omega)), fun _ => n_isIn ht (by unfold z_ok; omega) (by unfold z_ok; omega) (fun h2 h3 => y_262_8 ⟨(by unfold z_ok; omega), (fun h => absurd h (by omega)), fun _ => n_isIn hw (by unfold z_ok; omega) (by unfold z_ok; omega) (fun h4 h5 => absurd ⟨⟨h0, h1⟩, ⟨h2, h3⟩, h4, h5⟩ hno) (fun _ => y_262_13 ⟨(by unfold z_ok; omega), (fun h => absurd h (by omega)), fun _ => p_ml rfl hI⟩)⟩) (fun _ => y_262_8 ⟨(by unfold z_ok; omega), fun _ => p_ml rfl hI, (fun h => absurd h (by omega))⟩)⟩) (fun _ => y_262_3 ⟨(by unfold z_ok; omega), fun _ => p_ml rfl hI, (fun h => absurd h (by omega))⟩))
  have bad : ¬ ((0 ≤ s ∧ s < m 1 3) ∧ (2 ≤ t ∧ t ≤ 20) ∧ 0 ≤ w ∧ w ≤ 1) → ∃ v m1 g1, (.inr (.inl (-9223372036854775808)) : q_V) = .inr (.inl v) ∧ z_st m g = z_st m1 g1 ∧ (∀ j, m1 1001 j = m 1001 j) ∧ g1.1 = g.1 ∧ z_C 262 [.inr (.inr 131), .inl s, .inl t, .inl w] (z_st m1 g1) (fun r' S'' => ∃ v' m2 g2, r' = .inr (.inl v') ∧ S'' = z_st m2 g2 ∧ q_wl v = q_wl v' ∧ I L m2 g2) := fun hno => ⟨_, m, g, rfl, rfl, fun _ => rfl, rfl, mno hno⟩
  unfold z_ok at ht hw
  refine y_131 (c_isSumB hs hV (fun h0 h1 => y_131_3 ⟨(by unfold z_ok; omega), (fun h => absurd h (by omega)), fun _ => ⟨(by unfold z_ok2; omega), fun h => bad (fun hh => by omega), fun t2 => ⟨(by unfold z_ok2; omega), fun h => bad (fun hh => by omega), fun t20 => ⟨(by unfold z_ok; omega), fun h => bad (fun hh => by omega), fun w0 => ⟨(by unfold z_ok2; omega), fun w1 => ?_, fun h => bad (fun hh => by omega)⟩⟩⟩⟩⟩) (fun hno => y_131_3 ⟨(by unfold z_ok; omega), fun _ => bad (fun hh => hno hh.1), (fun h => absurd h (by omega))⟩))
  have hSV := (s_S_V hV h0 h1).1
  have hN := s_N_N (s := s) hV
  have h6 := hSV.2.2
  refine c_lookAt hC h0 h1 fun m1 f1 hT h4 h5 => y_131_20 (c_chanceAbove hSV hT hN t2 t20 fun m2 f2 => y_131_24 ⟨(by unfold z_ok; omega), ?_⟩)
  rw [f2 66 1 (by omega), hT.2.1.1]
  refine c_wholePower (by omega) (y_131_32 ?_)
  have hQ : c_Q m m2 := ⟨fun b j h => by rw [f2 b j (by omega), f1 b j (by omega)], Or.inr ⟨_, t_F_sam hT.1 (by decide) f2⟩, by show _ = _; rw [f2 72 12 (by omega), f1 72 12 (by omega)]; exact hZ⟩
  obtain ⟨e2, b64⟩ := q_b_two h6
  have b0 : 0 ≤ ((2 ^ x_many (s_S m s) : Nat) : Int) := Int.natCast_nonneg _
  have hup := u_sum_rng (p := s_p m) (S := s_S m s) (N := s_N m s) (b := t - 1) h6 (by omega) (by omega) (f := fun i => i) b64
  have hdn := u_pow_rng (t := t) (by omega) t20 (x_many (s_S m s))
  have h20 : (20 : Int) ^ x_many (s_S m s) ≤ 64000000 := by
    have h6' : x_many (s_S m s) = 0 ∨ x_many (s_S m s) = 1 ∨ x_many (s_S m s) = 2 ∨ x_many (s_S m s) = 3 ∨ x_many (s_S m s) = 4 ∨ x_many (s_S m s) = 5 ∨ x_many (s_S m s) = 6 := by omega
    rcases h6' with h | h | h | h | h | h | h <;> rw [h] <;> decide
  have eup : z_sum (fun i => u_h (s_p m) (s_S m s) (s_N m s) (t - 1) ((fun i => i) i)) (2 ^ x_many (s_S m s)) = z_sum (u_h (s_p m) (s_S m s) (s_N m s) (t - 1)) (2 ^ x_many (s_S m s)) := rfl
  rw [eup] at hup
  have mgo : ∀ Q : q_V → q_S → Prop, (∀ m' da11 da13, (∀ a j, ¬ a = 138 → m' a j = m2 a j) → z_T 262 41 [.inr (.inr 131), .inl s, .inl t, .inl w, .inl (s_S m s : Int), .inl (x_many (s_S m s) : Int), .inr (.inl (z_sum (u_h (s_p m) (s_S m s) (s_N m s) (t - 1)) (2 ^ x_many (s_S m s)))), q_dead, .inr (.inl (t ^ x_many (s_S m s))), q_dead, .inl ((2 ^ x_many (s_S m s) : Nat) : Int), da11, q_dead, da13] [] (z_st m' g) Q) → z_C 262 [.inr (.inr 131), .inl s, .inl t, .inl w] (z_st m2 g) Q := by
    intro Q hk
    have hS := I_nS hV hR h0 h1 (c_Q_fr hQ)
    have hSV8 := hSV.1
    refine y_262 (n_isSum hs (by rw [hQ.1 131 8 (by omega)]; exact r8) v3 (fun _ _ => y_262_3 ⟨(by unfold z_ok; omega), (fun h => absurd h (by omega)), fun _ => n_isIn (by unfold z_ok; omega) (by unfold z_ok; omega) (by unfold z_ok; omega) (fun _ _ => y_262_8 ⟨(by unfold z_ok; omega), (fun h => absurd h (by omega)), fun _ => n_isIn (by unfold z_ok; omega) (by unfold z_ok; omega) (by unfold z_ok; omega) (fun _ _ => y_262_13 ⟨(by unfold z_ok; omega), fun _ => n_setOf hS (y_262_19 (n_many (by omega) (y_262_22 ?_))), (fun h => absurd h (by omega))⟩) (fun h => absurd ⟨w0, w1⟩ h)⟩) (fun h => absurd ⟨t2, t20⟩ h)⟩) (fun h => absurd ⟨h0, h1⟩ h))
    have loop : ∀ (d k : Nat) (ki : Int), x_many (s_S m s) - k = d → ki = (k : Int) → k ≤ x_many (s_S m s) → z_T 262 29 [.inr (.inr 131), .inl s, .inl t, .inl w, .inl (s_S m s : Int), .inl (x_many (s_S m s) : Int), .inr (.inl 0), q_dead, .inr (.inl (t ^ k)), q_dead, .inl ki, q_dead, q_dead, q_dead] [] (z_st m2 g) Q := by
      intro d
      induction d with
      | zero =>
        intro k ki hd hki hkn
        have hk2 : k = x_many (s_S m s) := by omega
        subst hk2
        exact y_262_29 ⟨(by unfold z_ok2; omega), fun _ => n_chanceUp hS t2 t20 hk, (fun h => absurd h (by omega))⟩
      | succ d ih =>
        intro k ki hd hki hkn
        refine y_262_29 ⟨(by unfold z_ok2; omega), (fun h => absurd h (by omega)), fun _ => ⟨(by unfold z_ok; omega), ?_⟩⟩
        rw [← Int.pow_succ]
        exact ih (k + 1) (ki + 1) (by omega) (by omega) (by omega)
    have l0 := loop (x_many (s_S m s)) 0 0 (by omega) rfl (by omega)
    rw [Int.pow_zero] at l0
    exact l0
  obtain ⟨A, hA⟩ := Int.eq_ofNat_of_zero_le hup.1
  obtain ⟨B, hB⟩ := Int.eq_ofNat_of_zero_le (show 0 ≤ t ^ x_many (s_S m s) by omega)
  rw [hA, hB] at mgo
  rw [hA] at hup ⊢
  rw [hB] at hdn ⊢
  have hg : 0 < Nat.gcd A B := Nat.gcd_pos_of_pos_right _ (by omega)
  have hgB := Nat.gcd_le_right (n := B) A (by omega)
  obtain ⟨l0, l1⟩ := u_lc (s := (Nat.gcd A B : Int)) (by omega)
  have fin : ∀ m3 : z_M, (∀ a j, ¬ a = 138 → m3 a j = m2 a j) → I L m3 g := fun m3 f3 => I_q hI hQ (fun b j h => f3 b j (fun h2 => h (by omega)))
  refine c_gcd (by omega) (by omega) (y_131_36 ⟨by unfold z_okl2; omega, l1, fun _ => ⟨(by unfold z_ok; omega), fun hw0 => ⟨by unfold z_dl; omega, ?_⟩, fun hw0 => ⟨by unfold z_dl; omega, ?_⟩⟩, fun h => absurd l0 (by omega)⟩)
  · refine ⟨_, m2, g, rfl, rfl, fun j => hQ.1 1001 j (by omega), rfl, mgo _ fun m3 d11 d13 f3 => y_262_41 ?_⟩
    rw [e2]
    exact ⟨(by unfold z_ok2; omega), fun _ => ⟨(by unfold z_ok; omega), fun _ => n_gcd (by omega) (by omega) (y_262_107 ⟨by unfold z_dl; omega, p_ml rfl (fin m3 f3)⟩), fun h => absurd h hw0⟩, (fun h => absurd h (by omega))⟩
  · refine ⟨_, m2, g, rfl, rfl, fun j => hQ.1 1001 j (by omega), rfl, mgo _ fun m3 d11 d13 f3 => y_262_41 ?_⟩
    rw [e2]
    exact ⟨(by unfold z_ok2; omega), fun _ => ⟨(by unfold z_ok; omega), fun h => absurd hw0 h, fun _ => n_gcd (by omega) (by omega) (y_262_107 ⟨by unfold z_dl; omega, p_ml rfl (fin m3 f3)⟩)⟩, (fun h => absurd h (by omega))⟩
