/-! PAIRS: chance -/
def u_N (S : Nat) (N : Nat → Int) (T e : Nat) : Int := if T.testBit (x_pre S e).length = true then N e else 0
theorem u_N_N {p : Int} {S T : Nat} {N : Nat → Int} (hN : x_N p S N) : x_N p S (u_N S N T) := by
  refine ⟨fun e => ?_, fun e he => ?_⟩
  · have := hN.1 e
    unfold u_N
    split <;> omega
  · have := hN.2 e he
    unfold u_N
    split <;> omega
theorem u_N_at {S T k : Nat} {N : Nat → Int} (hk : k < x_many S) : u_N S N T (x_at S k) = if T.testBit k = true then N (x_at S k) else 0 := by
  unfold u_N
  rw [(x_at_uniq hk rfl).2.2]
def u_pw (b : Int) (T : Nat) : Nat → Int
  | 0 => 1
  | k + 1 => if T.testBit k = true then u_pw b T k * b else u_pw b T k
theorem u_pw_pow {b : Int} {T : Nat} : ∀ k, u_pw b T k = b ^ (z_sum (fun e => if T.testBit e = true then (1 : Int) else 0) k).toNat
  | 0 => by show (1 : Int) = b ^ 0; rw [Int.pow_zero]
  | k + 1 => by
    have h0 := (z_sum_rng (f := fun e => if T.testBit e = true then (1 : Int) else 0) (B := 1) (n := k) (fun k _ => by split <;> omega)).1
    unfold u_pw
    rw [u_pw_pow k]
    show _ = b ^ (z_sum (fun e => if T.testBit e = true then (1 : Int) else 0) k + (if T.testBit k = true then (1 : Int) else 0)).toNat
    by_cases h : T.testBit k = true
    · rw [if_pos h, if_pos h, show (z_sum (fun e => if T.testBit e = true then (1 : Int) else 0) k + 1).toNat = (z_sum (fun e => if T.testBit e = true then (1 : Int) else 0) k).toNat + 1 by omega, Int.pow_succ]
    · rw [if_neg h, if_neg h, Int.add_zero]
theorem u_pw_more {b : Int} {T n : Nat} (hT : T < 2 ^ n) : ∀ j, u_pw b T (n + j) = u_pw b T n
  | 0 => rfl
  | j + 1 => by
    show (if T.testBit (n + j) = true then u_pw b T (n + j) * b else u_pw b T (n + j)) = _
    have h : T.testBit (n + j) = false := Nat.testBit_lt_two_pow (Nat.lt_of_lt_of_le hT (Nat.pow_le_pow_right (by decide) (by omega)))
    rw [if_neg (by rw [h]; decide), u_pw_more hT j]
theorem u_pw_bc {b : Int} {T n : Nat} (hT : T < 2 ^ n) (hn : n ≤ 31) : b ^ (r_bc T).toNat = u_pw b T n := by
  have h := u_pw_more (b := b) hT (31 - n)
  rw [show n + (31 - n) = 31 by omega] at h
  rw [← h, u_pw_pow]
  rfl
theorem u_pw_rng {b : Int} {T : Nat} (h0 : 1 ≤ b) (h1 : b ≤ 19) : ∀ k, 0 ≤ u_pw b T k ∧ u_pw b T k ≤ 19 ^ k
  | 0 => ⟨by show (0 : Int) ≤ 1; decide, by show (1 : Int) ≤ 19 ^ 0; rw [Int.pow_zero]; decide⟩
  | k + 1 => by
    obtain ⟨g1, g2⟩ := u_pw_rng (T := T) h0 h1 k
    have g3 : u_pw b T k * b ≤ 19 ^ k * 19 := Int.mul_le_mul g2 h1 (by omega) (by omega)
    have g4 := Int.mul_nonneg g1 (show 0 ≤ b by omega)
    unfold u_pw
    rw [Int.pow_succ]
    split <;> omega
noncomputable def u_h (p : Int) (S : Nat) (N : Nat → Int) (b : Int) (T : Nat) : Int := @ite Int (x_dbl p (u_N S N T)) (Classical.propDecidable _) (u_pw b T (x_many S)) 0
theorem u_h_t {p : Int} {S : Nat} {N : Nat → Int} {b : Int} {T : Nat} (h : x_dbl p (u_N S N T)) : u_h p S N b T = u_pw b T (x_many S) := if_pos h
theorem u_h_f {p : Int} {S : Nat} {N : Nat → Int} {b : Int} {T : Nat} (h : ¬ x_dbl p (u_N S N T)) : u_h p S N b T = 0 := if_neg h
theorem u_sum_rng {p : Int} {S : Nat} {N : Nat → Int} {b : Int} (h6 : x_many S ≤ 6) (h0 : 1 ≤ b) (h1 : b ≤ 19) {f : Nat → Nat} {n : Nat} (hn : n ≤ 64) : 0 ≤ z_sum (fun i => u_h p S N b (f i)) n ∧ z_sum (fun i => u_h p S N b (f i)) n ≤ 4000000000 := by
  have h := z_sum_rng (f := fun i => u_h p S N b (f i)) (B := 47045881) (n := n) (fun k _ => by
    show 0 ≤ u_h p S N b (f k) ∧ u_h p S N b (f k) ≤ 47045881
    by_cases hd : x_dbl p (u_N S N (f k))
    · rw [u_h_t hd]
      have g := u_pw_rng (b := b) (T := f k) h0 h1 (x_many S)
      have g6 := u_pw_rng (b := 19) (T := 0) (by decide) (by decide) 0
      have g2 : (19 : Int) ^ x_many S ≤ 19 ^ 6 := by
        have h6' : x_many S = 0 ∨ x_many S = 1 ∨ x_many S = 2 ∨ x_many S = 3 ∨ x_many S = 4 ∨ x_many S = 5 ∨ x_many S = 6 := by omega
        rcases h6' with h | h | h | h | h | h | h <;> rw [h] <;> decide
      have g3 : (19 : Int) ^ 6 = 47045881 := by decide
      omega
    · rw [u_h_f hd]
      exact ⟨by decide, by decide⟩)
  omega
theorem z_sum_rev (f : Nat → Int) : ∀ n, z_sum (fun i => f (n - (i + 1))) n = z_sum f n
  | 0 => rfl
  | n + 1 => by
    rw [z_sum_shift]
    show f (n + 1 - (0 + 1)) + z_sum (fun e => f (n + 1 - (e + 1 + 1))) n = z_sum f n + f n
    rw [show n + 1 - (0 + 1) = n by omega, ← z_sum_rev f n, Int.add_comm]
    congr 1
    exact z_sum_congr fun k _ => by rw [show n + 1 - (k + 1 + 1) = n - (k + 1) by omega]
theorem c_wholePower {m : z_M} {g : z_g} {Q : q_V → q_S → Prop} {b : Int} {n : Nat} (hn : n < 1000) (kk : Q (.inr (.inl (b ^ n))) (z_st m g)) : z_C 134 [.inr (.inl b), .inl (n : Int)] (z_st m g) Q := by
  have loop : ∀ (d k : Nat) (ki : Int), n - k = d → ki = (k : Int) → k ≤ n → z_T 134 4 [.inr (.inl b), q_dead, .inl (n : Int), .inr (.inl (b ^ k)), q_dead, .inl ki] [] (z_st m g) Q := by
    intro d
    induction d with
    | zero =>
      intro k ki hd hki hkn
      have hk : k = n := by omega
      subst hk
      exact y_134_4 ⟨(by unfold z_ok2; omega), fun _ => kk, (fun h => absurd h (by omega))⟩
    | succ d ih =>
      intro k ki hd hki hkn
      refine y_134_4 ⟨(by unfold z_ok2; omega), (fun h => absurd h (by omega)), fun _ => ?_⟩
      rw [← Int.pow_succ]
      exact ih (k + 1) (ki + 1) (by omega) (by omega) (by omega)
  have h0 := loop n 0 0 rfl rfl (by omega)
  rw [Int.pow_zero] at h0
  exact y_134 h0
theorem n_gcd {m : z_M} {g : z_g} {Q : q_V → q_S → Prop} {a b : Nat} (ha : a < 4611686018427387904) (hb : b < 4611686018427387904) (kk : Q (.inr (.inl (Nat.gcd a b : Int))) (z_st m g)) : z_C 263 [.inr (.inl (a : Int)), .inr (.inl (b : Int))] (z_st m g) Q := by
  have loop : ∀ (x y : Int) (d a b : Nat) (v : q_V), b ≤ d → a < 4611686018427387904 → b < 4611686018427387904 → Q (.inr (.inl (Nat.gcd a b : Int))) (z_st m g) → z_T 263 4 [.inr (.inl x), q_dead, .inr (.inl y), q_dead, .inr (.inl (a : Int)), q_dead, .inr (.inl (b : Int)), q_dead, v, q_dead] [] (z_st m g) Q := by
    intro x y d
    induction d with
    | zero =>
      intro a b v hd ha hb kk
      obtain rfl : b = 0 := by omega
      rw [Nat.gcd_zero_right] at kk
      refine y_263_4 ?_
      rw [if_neg (by omega), if_pos (by omega)]
      exact ⟨by unfold z_okl2; omega, (by unfold z_ok; omega), fun _ => kk, fun h => absurd rfl h⟩
    | succ d ih =>
      intro a b v hd ha hb kk
      refine y_263_4 ⟨by unfold z_okl2; omega, by split <;> (try split) <;> unfold z_ok <;> omega, fun h => ?_, fun h => ⟨?_, ?_⟩⟩
      · have hb0 : b = 0 := by
          rw [if_neg (by omega)] at h
          by_cases hb0 : (b : Int) = 0
          · omega
          · rw [if_neg hb0] at h; exact absurd h (by decide)
        subst hb0
        rw [Nat.gcd_zero_right] at kk
        exact kk
      · have hb0 : ¬ (b : Int) = 0 := fun hb0 => h (by rw [if_neg (by omega), if_pos hb0])
        unfold z_dl
        omega
      · have hb0 : ¬ (b : Int) = 0 := fun hb0 => h (by rw [if_neg (by omega), if_pos hb0])
        have hm : a % b < b := Nat.mod_lt _ (by omega)
        rw [← Int.natCast_emod]
        refine ih b (a % b) _ (by omega) hb (by omega) ?_
        rw [Nat.gcd_comm a b, Nat.gcd_rec b a, Nat.gcd_comm] at kk
        exact kk
  exact y_263 (loop a b b a b _ (Nat.le_refl _) ha hb kk)
theorem q_b_two {n : Nat} (hn : n ≤ 6) : q_bin 6 1 (n : Int) = ((2 ^ n : Nat) : Int) ∧ 2 ^ n ≤ 64 := by
  have h2 : 2 ^ n ≤ 2 ^ 6 := Nat.pow_le_pow_right (by decide) hn
  have := q_b_shl (a := 1) (e := n) (by omega) (by omega)
  rw [Nat.one_mul] at this
  exact ⟨this, h2⟩
/-- the class: above the line -/
theorem c_chanceAbove {m : z_M} {g : z_g} {Q : q_V → q_S → Prop} {p t : Int} {S : Nat} {N : Nat → Int} (hS : x_V S) (hT : t_TT m p S N) (hN : x_N p S N) (t2 : 2 ≤ t) (t20 : t ≤ 20) (kk : ∀ m', t_sam 68 69 m m' → Q (.inr (.inl (z_sum (u_h p S N (t - 1)) (2 ^ x_many S)))) (z_st m' g)) : z_C 132 [.inr (.inr 65), .inl t] (z_st m g) Q := by
  obtain ⟨s1, s2, s3⟩ := hS
  obtain ⟨e2, b64⟩ := q_b_two s3
  have hF := hT.1
  have hp := hF.1
  have hp5 := z_pr_le hp
  have outer : ∀ (d T : Nat) (Ti : Int) (m3 : z_M) (da5 : q_V), 2 ^ x_many S - T = d → Ti = (T : Int) → T ≤ 2 ^ x_many S → t_sam 68 69 m m3 → (∀ k, k < x_many S → m3 69 k = N (x_at S k)) → z_T 132 12 [.inr (.inr 65), .inl t, .inr (.inl (z_sum (u_h p S N (t - 1)) T)), q_dead, .inl Ti, da5] [] (z_st m3 g) Q := by
    intro d
    induction d with
    | zero =>
      intro T Ti m3 da5 hd hTi hTn q1 q2
      have hT2 : T = 2 ^ x_many S := by omega
      refine y_132_12 ?_
      rw [q1 66 1 (by omega), hT.2.1.1, e2]
      refine ⟨(by unfold z_ok2; omega), fun _ => ?_, (fun h => absurd h (by omega))⟩
      rw [hT2]
      exact kk m3 q1
    | succ d ih =>
      intro T Ti m3 da5 hd hTi hTn q1 q2
      subst hTi
      have hTlt : T < 2 ^ x_many S := by omega
      have inner : ∀ (d2 k : Nat) (ki : Int) (m4 : z_M), x_many S - k = d2 → ki = (k : Int) → k ≤ x_many S → t_sam 68 69 m m4 → (∀ k, k < x_many S → m4 69 k = N (x_at S k)) → (∀ i, i < k → m4 68 i = u_N S N T (x_at S i)) → z_T 132 21 [.inr (.inr 65), .inl t, .inr (.inl (z_sum (u_h p S N (t - 1)) T)), q_dead, .inl (T : Int), .inl ki] [] (z_st m4 g) Q := by
        intro d2
        induction d2 with
        | zero =>
          intro k ki m4 hd2 hki hkn w1 w2 w3
          have hk : k = x_many S := by omega
          subst hk
          have hT4 : t_TT m4 p S (u_N S N T) := ⟨t_F_sam hF (by decide) w1, ⟨by rw [w1 66 1 (by omega)]; exact hT.2.1.1, fun k hk => by rw [w1 (66 + 1) k (by omega)]; exact hT.2.1.2 k hk⟩, w3⟩
          refine y_132_21 ?_
          rw [w1 66 1 (by omega), hT.2.1.1]
          refine ⟨(by unfold z_ok2; omega), fun _ => c_hasDouble s3 hT4 (u_N_N hN) (fun hy => y_132_47 ⟨(by unfold z_ok; omega), (fun h => absurd h (by omega)), fun _ => ⟨(by unfold z_ok; omega), c_bitCount rfl (by omega) (y_132_55 ?_)⟩⟩) (fun hn => y_132_47 ⟨(by unfold z_ok; omega), fun _ => ?_, (fun h => absurd h (by omega))⟩), (fun h => absurd h (by omega))⟩
          · have hr := r_bc_rng (n := T)
            have hc : r_bc T = ((r_bc T).toNat : Int) := by omega
            rw [hc]
            refine c_wholePower (by omega) (y_132_56 ?_)
            rw [u_pw_bc hTlt (by omega), ← u_h_t hy]
            exact ih (T + 1) _ m4 _ (by omega) (by omega) (by omega) w1 w2
          · have := ih (T + 1) ((T : Int) + 1) m4 (.inl ki) (by omega) (by omega) (by omega) w1 w2
            have e : z_sum (u_h p S N (t - 1)) (T + 1) = z_sum (u_h p S N (t - 1)) T := by
              show z_sum (u_h p S N (t - 1)) T + u_h p S N (t - 1) T = _
              rw [u_h_f hn, Int.add_zero]
            rw [e] at this
            exact this
        | succ d2 ih2 =>
          intro k ki m4 hd2 hki hkn w1 w2 w3
          subst hki
          have hk : k < x_many S := by omega
          have hb := q_b_bit (a := T) (e := k) (by omega) (by omega)
          refine y_132_21 ?_
          rw [w1 66 1 (by omega), hT.2.1.1, hb, show ((k : Int)).toNat = k by omega]
          refine ⟨(by unfold z_ok2; omega), (fun h => absurd h (by omega)), fun _ => ⟨?_, fun h => ⟨⟨by omega, by omega⟩, ih2 (k + 1) _ _ (by omega) (by omega) (by omega) (fun x j h => by rw [z_un (by omega)]; exact w1 x j h) (fun i hi => by rw [z_un (by omega)]; exact w2 i hi) (fun i hi => ?_)⟩, fun h => ⟨⟨by omega, by omega⟩, ⟨by omega, by omega⟩, ih2 (k + 1) _ _ (by omega) (by omega) (by omega) (fun x j h => by rw [z_un (by omega)]; exact w1 x j h) (fun i hi => by rw [z_un (by omega)]; exact w2 i hi) (fun i hi => ?_)⟩⟩⟩
          · split <;> unfold z_ok2 <;> omega
          · have hbf : ¬ T.testBit k = true := fun hh => h (if_pos hh)
            by_cases hik : i = k
            · rw [hik, z_ue rfl rfl, u_N_at hk, if_neg hbf]
            · rw [z_un (by omega)]; exact w3 i (by omega)
          · have hbt : T.testBit k = true := by
              by_cases hh : T.testBit k = true
              · exact hh
              · rw [if_neg hh] at h; exact absurd h (by decide)
            by_cases hik : i = k
            · rw [hik, z_ue rfl rfl, u_N_at hk, if_pos hbt]; exact w2 k hk
            · rw [z_un (by omega)]; exact w3 i (by omega)
      refine y_132_12 ?_
      rw [q1 66 1 (by omega), hT.2.1.1, e2]
      exact ⟨(by unfold z_ok2; omega), (fun h => absurd h (by omega)), fun _ => inner (x_many S) 0 0 m3 (by omega) rfl (by omega) q1 q2 (fun i hi => absurd hi (by omega))⟩
  refine y_132 ⟨by decide, ?_⟩
  have f2 : t_sam 68 69 m (q_cpy m 68 (0 : Int).toNat 69 (0 : Int).toNat (6 : Int).toNat) := fun x j h => q_cp_n (by omega)
  refine outer (2 ^ x_many S) 0 0 _ _ (Nat.sub_zero _) rfl (Nat.zero_le _) f2 (fun k hk => ?_)
  rw [q_cp_e (by omega) (by omega)]
  rw [show Int.toNat 0 + (k - Int.toNat 0) = k by omega]
  exact hT.2.2 k hk
