/-! PAIRS: three -/
def w_n (S : Nat) : Int := ((x_at S (x_many S - 1) : Int) - (x_at S 0 : Int)) / (x_step S : Int)
def w_k (S : Nat) : Int := ((x_at S 1 : Int) - (x_at S 0 : Int)) / (x_step S : Int)
theorem w_rng {S : Nat} (hS : x_V S) (h3 : x_many S = 3) : 0 ≤ w_k S ∧ w_k S ≤ w_n S ∧ w_n S ≤ 12 := by
  have hst := x_step_pos hS
  have h01 := x_at_lt (S := S) (i := 0) (j := 1) (by omega) (by omega)
  have h12 := x_at_lt (S := S) (i := 1) (j := 2) (by omega) (by omega)
  have hle := x_at_le (S := S) (k := 2) (by omega)
  unfold w_k w_n
  rw [h3, show 3 - 1 = 2 from rfl]
  refine ⟨Int.ediv_nonneg (by omega) (by omega), Int.ediv_le_ediv (by omega) (by omega), ?_⟩
  exact Int.le_trans (Int.ediv_le_self _ (by omega)) (by omega)
def w_A (p : Int) (S : Nat) (N : Nat → Int) : Int := w_n S ^ (w_n S).toNat * N (x_at S 2) ^ (w_k S).toNat * N (x_at S 0) ^ (w_n S - w_k S).toNat % p
def w_B (p : Int) (S : Nat) (N : Nat → Int) : Int := (w_n S - w_k S) ^ (w_n S - w_k S).toNat * w_k S ^ (w_k S).toNat * N (x_at S 1) ^ (w_n S).toNat % p
theorem w_m1 {p a b c : Int} : (a % p) * ((b % p) * (c % p) % p) % p = a * b * c % p := by
  rw [Int.mul_assoc]
  refine z_mmul z_mm (z_mm.trans (z_mmul z_mm z_mm))
theorem w_m2 {p a b c : Int} : ((a % p) * (b % p) % p) * (c % p) % p = a * b * c % p := z_mmul (z_mm.trans (z_mmul z_mm z_mm)) z_mm
def r_three (m : z_M) (s : Int) : Int := if 0 ≤ s ∧ s < m 1 3 then (if x_many (s_S m s) = 3 then (if w_n (s_S m s) % 2 = 0 then (w_A (s_p m) (s_S m s) (s_N m s) - w_B (s_p m) (s_S m s) (s_N m s)) % s_p m else (w_A (s_p m) (s_S m s) (s_N m s) + w_B (s_p m) (s_S m s) (s_N m s)) % s_p m) else -3) else -1
theorem w_mul {p a b : Int} (hp : z_pr p) (ha : 0 ≤ a ∧ a < p) (hb : 0 ≤ b ∧ b < p) : 0 ≤ a * b ∧ a * b < 961 := by
  have hp5 := z_pr_le hp
  have h1 := Int.mul_nonneg ha.1 hb.1
  have h2 := Int.mul_le_mul (a := a) (b := b) (c := 30) (d := 30) (by omega) (by omega) hb.1 (by omega)
  omega
theorem c_three {m : z_M} {g : z_g} {Q : q_V → q_S → Prop} {s : Int} (hs : z_ok s) (hC : i_C m) (hZ : i_Z m) (kk : ∀ m', c_Q m m' → Q (.inl (r_three m s)) (z_st m' g)) : z_C 129 [.inr (.inr 0), .inl s] (z_st m g) Q := by
  have hV := hC.1
  have hp := s_p_pr hV
  have hp5 := z_pr_le hp
  refine y_129 (c_isSumB hs hV (fun h0 h1 => y_129_3 ⟨(by unfold z_ok; omega), fun _ => ?_, (fun h => absurd h (by omega))⟩) (fun hno => y_129_3 ⟨(by unfold z_ok; omega), (fun h => absurd h (by omega)), fun _ => ?_⟩))
  · have hSV := (s_S_V hV h0 h1).1
    have hN := s_N_N (s := s) hV
    refine c_lookAt hC h0 h1 fun m1 f1 hT h4 h5 => y_129_9 (c_step_b hSV.2.2 hT.2.1 (y_129_15 ?_))
    have h6 := hSV.2.2
    have hF := hT.1
    have hst := x_step_pos hSV
    have hQ : c_Q m m1 := c_Q_of hZ f1 hT (fun _ _ _ => rfl) rfl
    have key := kk m1 hQ
    unfold r_three at key
    rw [if_pos ⟨h0, h1⟩] at key
    rw [hT.2.1.1]
    refine ⟨(by unfold z_ok2; omega), fun h => ?_, fun h => ⟨(by unfold z_ok2; omega), fun _ => c_area_b hSV hT.2.1 (y_129_27 (c_eat_b h6 hT.2.1 (by omega) (by omega) (y_129_31 (c_eat_b h6 hT.2.1 (by omega) (by omega) (y_129_34 ?_))))), (fun h => absurd h (by omega))⟩⟩
    · rw [if_neg (fun h3 => h (by omega))] at key
      exact key
    · have h3 : x_many (s_S m s) = 3 := by omega
      rw [if_pos h3] at key
      have hr := w_rng hSV h3
      have h01 := x_at_lt (S := s_S m s) (i := 0) (j := 1) (by omega) (by omega)
      have hle := x_at_le (S := s_S m s) (k := 1) (by omega)
      refine ⟨by show z_dv ((x_at (s_S m s) 1 : Int) - (x_at (s_S m s) 0 : Int)) _; unfold z_dv; omega, ?_⟩
      show z_C 130 [.inr (.inr 29), .inl (w_n (s_S m s)), .inl (w_n (s_S m s))] (z_st m1 g) (fun v S => z_T 129 49 [.inr (.inr 0), .inl s, .inr (.inr 66), .inl (x_step (s_S m s) : Int), .inl (w_n (s_S m s)), .inl (w_k (s_S m s)), .inl (w_n (s_S m s) - w_k (s_S m s)), q_dead, q_dead] (q_push v [.inr (.inr 29)]) S Q)
      unfold w_A w_B at key
      have n2 := hN.1 (x_at (s_S m s) 2)
      have n1 := hN.1 (x_at (s_S m s) 1)
      have n0 := hN.1 (x_at (s_S m s) 0)
      generalize w_n (s_S m s) = n at hr key
      generalize w_k (s_S m s) = k at hr key
      have mr : ∀ a : Int, 0 ≤ a % s_p m ∧ a % s_p m < s_p m := fun a => z_m0 (by omega)
      have mk : ∀ a b : Int, z_ok ((a % s_p m) * (b % s_p m)) := fun a b => by
        have := w_mul hp (mr a) (mr b)
        unfold z_ok
        omega
      refine c_powerOfAny hF (by unfold z_ok; omega) (by omega) (by omega) (y_129_49 (c_numberAt h6 hT (by omega) (by omega) (y_129_57 ?_)))
      show z_C 130 [.inr (.inr 29), .inl (s_N m s (x_at (s_S m s) 2)), .inl k] _ _
      refine c_powerOfAny hF (by unfold z_ok; omega) (by omega) (by omega) (y_129_59 (c_numberAt h6 hT (by omega) (by omega) (y_129_65 ?_)))
      show z_C 130 [.inr (.inr 29), .inl (s_N m s (x_at (s_S m s) 0)), .inl (n - k)] _ _
      refine c_powerOfAny hF (by unfold z_ok; omega) (by omega) (by omega) (y_129_67 (c_product hp hF.2.1 (mk _ _) (y_129_68 (c_product hp hF.2.1 (mk _ _) (y_129_69 ?_)))))
      refine c_powerOfAny hF (by unfold z_ok; omega) (by omega) (by omega) (y_129_77 (c_powerOfAny hF (by unfold z_ok; omega) (by omega) (by omega) (y_129_84 (c_numberAt h6 hT (by omega) (by omega) (y_129_90 ?_)))))
      show z_C 130 [.inr (.inr 29), .inl (s_N m s (x_at (s_S m s) 1)), .inl n] _ _
      refine c_powerOfAny hF (by unfold z_ok; omega) (by omega) (by omega) (y_129_92 (c_product hp hF.2.1 (mk _ _) (y_129_93 (c_product hp hF.2.1 (mk _ _) (y_129_94 ?_)))))
      rw [w_m1, w_m1]
      have r1 := mr (n ^ n.toNat * s_N m s (x_at (s_S m s) 2) ^ k.toNat * s_N m s (x_at (s_S m s) 0) ^ (n - k).toNat)
      have r2 := mr ((n - k) ^ (n - k).toNat * k ^ k.toNat * s_N m s (x_at (s_S m s) 1) ^ n.toNat)
      refine ⟨by unfold z_dv; omega, (by unfold z_ok; omega), fun hodd => c_mod' hp hF.2.1 (by unfold z_ok; omega) (y_129_109 ?_), fun hev => c_mod' hp hF.2.1 (by unfold z_ok; omega) (y_129_109 ?_)⟩
      · rw [if_neg hodd] at key
        exact key
      · rw [if_pos hev] at key
        exact key
  · have key := kk m (c_Q_refl hC.2.1 hZ)
    unfold r_three at key
    rw [if_neg hno] at key
    exact key
theorem n_three {m m1 : z_M} {g : z_g} {Q : q_V → q_S → Prop} {s : Int} (hs : z_ok s) (hV : i_V m) (hR : i_R m) (f : c_Q m m1) (kk : Q (.inl (r_three m s)) (z_st m1 g)) : z_C 261 [.inr (.inr 131), .inl s] (z_st m1 g) Q := by
  have v3 := hV.2.2.1
  have hp := s_p_pr hV
  have hp5 := z_pr_le hp
  have e8 : m1 131 8 = m 1 3 := by rw [f.1 131 8 (by omega)]; exact hR.1.2.2.1
  unfold r_three at kk
  refine y_261 (n_isSum hs e8 v3 (fun h0 h1 => y_261_3 ⟨(by unfold z_ok; omega), fun _ => ?_, (fun h => absurd h (by omega))⟩) (fun hno => y_261_3 ⟨(by unfold z_ok; omega), (fun h => absurd h (by omega)), fun _ => ?_⟩))
  · rw [if_pos ⟨h0, h1⟩] at kk
    have hS := I_nS hV hR h0 h1 (c_Q_fr f)
    have hP := hS.1
    have hSV := hS.2.2.2.2.1
    have hN := s_N_N (s := s) hV
    have s8 := hSV.1
    have hst := x_step_pos hSV
    have h13 := x_many_13 (s_S m s)
    refine n_setOf hS (y_261_9 (n_many (by omega) (y_261_12 ⟨(by unfold z_ok2; omega), fun h => n_span (by omega) (by omega) (y_261_18 (n_step (by omega) (by omega) (y_261_20 ⟨?_, n_exponent (by omega) (by omega) (by omega) (y_261_25 (n_first (by omega) (by omega) (y_261_27 (n_step (by omega) (by omega) (y_261_30 ⟨?_, ?_⟩)))))⟩))), fun h => ?_⟩)))
    · have h3 : x_many (s_S m s) = 3 := by omega
      have hle := x_at_le (S := s_S m s) (k := x_many (s_S m s) - 1) (by omega)
      unfold z_dv
      omega
    · have h01 := x_at_lt (S := s_S m s) (i := 0) (j := 1) (by omega) (by omega)
      have hle := x_at_le (S := s_S m s) (k := 1) (by omega)
      show z_dv ((x_at (s_S m s) 1 : Int) - (x_at (s_S m s) 0 : Int)) _
      unfold z_dv
      omega
    · have h3 : x_many (s_S m s) = 3 := by omega
      rw [if_pos h3] at kk
      have hr := w_rng hSV h3
      show z_C 227 [.inr (.inr 131), .inl (w_n (s_S m s)), .inl (w_n (s_S m s))] (z_st m1 g) (fun v S => z_T 261 36 [.inr (.inr 131), .inl s, .inl (s_S m s : Int), .inl (w_n (s_S m s)), .inl (w_k (s_S m s)), q_dead, q_dead] (q_push v []) S Q)
      unfold w_A w_B at kk
      have n2 := hN.1 (x_at (s_S m s) 2)
      have n1 := hN.1 (x_at (s_S m s) 1)
      have n0 := hN.1 (x_at (s_S m s) 0)
      have a2 := x_at_le (S := s_S m s) (k := 2) (by omega)
      have a1 := x_at_le (S := s_S m s) (k := 1) (by omega)
      generalize w_n (s_S m s) = n at hr kk
      generalize w_k (s_S m s) = k at hr kk
      have mr : ∀ a : Int, 0 ≤ a % s_p m ∧ a % s_p m < s_p m := fun a => z_m0 (by omega)
      have mk : ∀ a b : Int, z_dv ((a % s_p m) * (b % s_p m)) (s_p m) := fun a b => by
        have := w_mul hp (mr a) (mr b)
        unfold z_dv
        omega
      have num : ∀ (e : Nat) (Q' : q_V → q_S → Prop), e ≤ 12 → Q' (.inl (s_N m s e)) (z_st m1 g) → z_C 214 [.inr (.inr 131), .inl s, .inl (e : Int)] (z_st m1 g) Q' := fun e Q' he h => n_numberOf hS (by omega) (by omega) h
      refine n_power hP (by unfold z_ok; omega) (by omega) (by omega) (y_261_36 (n_last (by omega) (by omega) (y_261_41 ?_)))
      rw [h3, show 3 - 1 = 2 from rfl]
      refine num _ _ a2.2 (y_261_42 (n_power hP (by unfold z_ok; omega) (by omega) (by omega) (y_261_44 (n_p hP (y_261_47 ⟨mk _ _, n_first (by omega) (by omega) (y_261_53 (num _ _ (by omega) (y_261_54 (n_power hP (by unfold z_ok; omega) (by omega) (by omega) (y_261_58 (n_p hP (y_261_61 ?_)))))))⟩)))))
      rw [w_m2]
      refine ⟨?_, ?_⟩
      · have h1 := mk (n ^ n.toNat * s_N m s (x_at (s_S m s) 2) ^ k.toNat) (s_N m s (x_at (s_S m s) 0) ^ (n - k).toNat)
        have e : n ^ n.toNat % s_p m * (s_N m s (x_at (s_S m s) 2) ^ k.toNat % s_p m) % s_p m = n ^ n.toNat * s_N m s (x_at (s_S m s) 2) ^ k.toNat % s_p m := z_mmul z_mm z_mm
        rw [e]
        exact h1
      refine n_power hP (by unfold z_ok; omega) (by omega) (by omega) (y_261_71 (n_power hP (by unfold z_ok; omega) (by omega) (by omega) (y_261_75 (n_p hP (y_261_78 ⟨mk _ _, n_exponent (by omega) (by omega) (by omega) (y_261_85 ?_)⟩)))))
      show z_C 214 [.inr (.inr 131), .inl s, .inl (x_at (s_S m s) 1 : Int)] _ _
      refine num _ _ a1.2 (y_261_86 (n_power hP (by unfold z_ok; omega) (by omega) (by omega) (y_261_88 (n_p hP (y_261_91 ?_)))))
      rw [w_m2]
      have r1 := mr (n ^ n.toNat * s_N m s (x_at (s_S m s) 2) ^ k.toNat * s_N m s (x_at (s_S m s) 0) ^ (n - k).toNat)
      have r2 := mr ((n - k) ^ (n - k).toNat * k ^ k.toNat * s_N m s (x_at (s_S m s) 1) ^ n.toNat)
      refine ⟨?_, by unfold z_dv; omega, (by unfold z_ok; omega), fun hodd => n_rest hP (by unfold z_ok; omega) (y_261_106 ?_), fun hev => n_rest hP (by unfold z_ok; omega) (y_261_106 ?_)⟩
      · have h1 := mk ((n - k) ^ (n - k).toNat * k ^ k.toNat) (s_N m s (x_at (s_S m s) 1) ^ n.toNat)
        have e : (n - k) ^ (n - k).toNat % s_p m * (k ^ k.toNat % s_p m) % s_p m = (n - k) ^ (n - k).toNat * k ^ k.toNat % s_p m := z_mmul z_mm z_mm
        rw [e]
        exact h1
      · rw [if_neg hodd] at kk
        exact kk
      · rw [if_pos hev] at kk
        exact kk
    · rw [if_neg (fun h3 => h (by omega))] at kk
      exact kk
  · rw [if_neg hno] at kk
    exact kk
theorem p_three {L : Nat} {m : z_M} {g : z_g} {s : Int} (hI : I L m g) (hs : z_ok s) : z_pI (I L) 129 261 [.inl s] m g :=
  p_pair (r_three m s) hI (fun Q kk => c_three hs hI.2.2.2.1 hI.2.2.2.2.1 kk) (fun m1 f1 Q kk => n_three hs hI.2.2.2.1.1 hI.2.2.2.2.2.1 f1 (kk m1 n_Q_refl))
