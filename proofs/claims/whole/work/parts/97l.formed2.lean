/-! PAIRS: formed, the pair -/
theorem formed_bad {L : Nat} {m : z_M} {g : z_g} {u x a : Int} (hI : I L m g) (hu : z_ok u) (hx : z_ok x) (ha : z_ok a) : ∀ (v : Int) (m1 : z_M), c_Q m m1 → ((¬ ((0 ≤ u ∧ u < m 1 1) ∧ 0 ≤ a ∧ a < 4) ∧ v = -1) ∨ (((0 ≤ u ∧ u < m 1 1) ∧ 0 ≤ a ∧ a < 4) ∧ ¬ (1 ≤ x ∧ x < s_p m) ∧ v = -2) ∨ (((0 ≤ u ∧ u < m 1 1) ∧ 0 ≤ a ∧ a < 4) ∧ (1 ≤ x ∧ x < s_p m) ∧ r_len m a < 0 ∧ v = -11) ∨ (((0 ≤ u ∧ u < m 1 1) ∧ 0 ≤ a ∧ a < 4) ∧ (1 ≤ x ∧ x < s_p m) ∧ 0 ≤ r_len m a ∧ r_len m a < (x_many (s_U m u) : Int) - 2 ∧ v = -13) ∨ (((0 ≤ u ∧ u < m 1 1) ∧ 0 ≤ a ∧ a < 4) ∧ (1 ≤ x ∧ x < s_p m) ∧ 0 ≤ r_len m a ∧ (x_many (s_U m u) : Int) - 2 ≤ r_len m a ∧ m 1 3 = 6 ∧ v = -4)) → ∃ v' m2 g2, (.inl v : q_V) = .inl v' ∧ z_st m1 g = z_st m2 g2 ∧ (∀ j, m2 1001 j = m 1001 j) ∧ g2.1 = g.1 ∧ z_C 240 [.inr (.inr 131), .inl u, .inl x, .inl a] (z_st m2 g2) (fun r' S'' => ∃ v'' m3 g3, r' = .inl v'' ∧ S'' = z_st m3 g3 ∧ q_w v' = q_w v'' ∧ I L m3 g3) := by
  have hh := hI
  obtain ⟨hg, hSc, hD, hC, hZ, hR, hK, hSt, hL, hX, hW, hF⟩ := hh
  have hV := hC.1
  have hT := hC.2.1
  have v1 := hV.2.1
  have v3 := hV.2.2.1
  have hp := s_p_pr hV
  have hp5 := z_pr_le hp
  have hra := r_len_rng (a := a) hL
  have mod : ∀ (m1 : z_M) (Q : q_V → q_S → Prop), c_Q m m1 → (¬ ((0 ≤ u ∧ u < m 1 1) ∧ 0 ≤ a ∧ a < 4) → Q (.inl (-1)) (z_st m1 g)) → (((0 ≤ u ∧ u < m 1 1) ∧ 0 ≤ a ∧ a < 4) → ¬ (1 ≤ x ∧ x < s_p m) → Q (.inl (-2)) (z_st m1 g)) → (((0 ≤ u ∧ u < m 1 1) ∧ 0 ≤ a ∧ a < 4) → (1 ≤ x ∧ x < s_p m) → r_len m a < 0 → Q (.inl (-11)) (z_st m1 g)) → (((0 ≤ u ∧ u < m 1 1) ∧ 0 ≤ a ∧ a < 4) → (1 ≤ x ∧ x < s_p m) → 0 ≤ r_len m a → r_len m a < (x_many (s_U m u) : Int) - 2 → Q (.inl (-13)) (z_st m1 g)) → (((0 ≤ u ∧ u < m 1 1) ∧ 0 ≤ a ∧ a < 4) → (1 ≤ x ∧ x < s_p m) → 0 ≤ r_len m a → (x_many (s_U m u) : Int) - 2 ≤ r_len m a → m 1 3 = 6 → Q (.inl (-4)) (z_st m1 g)) → (((0 ≤ u ∧ u < m 1 1) ∧ 0 ≤ a ∧ a < 4) → (1 ≤ x ∧ x < s_p m) → 0 ≤ r_len m a → (x_many (s_U m u) : Int) - 2 ≤ r_len m a → m 1 3 < 6 → z_C 207 [.inr (.inr 131), .inl u, .inl 0, .inl 0] (z_st (q_upd m1 131 41 0) g) (fun v S => z_T 240 54 [.inr (.inr 131), .inl u, .inl x, .inl a, .inl (s_U m u : Int), .inl ((x_many (s_U m u) : Int) - 2), q_dead, q_dead, q_dead, q_dead, q_dead] (q_push v []) S Q)) → z_C 240 [.inr (.inr 131), .inl u, .inl x, .inl a] (z_st m1 g) Q := by
    intro m1 Q f k1 k2 k3 k4 k5 k6
    have e3 : m1 131 3 = m 1 1 := by rw [f.1 131 3 (by omega)]; exact hR.1.2.1
    have e8 : m1 131 8 = m 1 3 := by rw [f.1 131 8 (by omega)]; exact hR.1.2.2.1
    refine y_240 (n_isSupport hu e3 v1 (fun h0 h1 => y_240_3 ⟨(by unfold z_ok; omega), (fun h => absurd h (by omega)), fun _ => n_isList ha (fun h2 h3 => y_240_6 ⟨(by unfold z_ok; omega), fun _ => ?_, (fun h => absurd h (by omega))⟩) (fun h => y_240_6 ⟨(by unfold z_ok; omega), (fun h => absurd h (by omega)), fun _ => k1 (fun hh => h hh.2)⟩)⟩) (fun h => y_240_3 ⟨(by unfold z_ok; omega), fun _ => k1 (fun hh => h hh.1), (fun h => absurd h (by omega))⟩))
    have hin : (0 ≤ u ∧ u < m 1 1) ∧ 0 ≤ a ∧ a < 4 := ⟨⟨h0, h1⟩, h2, h3⟩
    refine n_isRoot hx (I_nP hV hR (c_Q_fr f)) (fun x0 x1 => y_240_12 ⟨(by unfold z_ok; omega), fun _ => ⟨⟨by omega, by omega⟩, ?_⟩, (fun h => absurd h (by omega))⟩) (fun h => y_240_12 ⟨(by unfold z_ok; omega), (fun h => absurd h (by omega)), fun _ => k2 hin h⟩)
    have ea : r_len m a = m 120 a.toNat := if_pos ⟨h2, h3⟩
    have hU := n_U hV hR f h0 h1
    have hUV := (s_U_V hV h0 h1).2
    have e161 : m1 161 a.toNat = r_len m a := by rw [ea, f.1 161 _ (by omega)]; exact (hL a.toNat (by omega)).2.2.1
    rw [e161, hU]
    refine ⟨(by unfold z_ok; omega), fun h => ⟨⟨by omega, by omega⟩, n_many (by have := hUV.1; omega) (y_240_29 ⟨⟨by omega, by omega⟩, ?_⟩)⟩, fun h => k3 hin ⟨x0, x1⟩ h⟩
    rw [e161, e8]
    have hm6 := hUV.2.2
    exact ⟨(by unfold z_ok2; omega), fun h4 => ⟨(by unfold z_ok2; omega), fun h5 => k6 hin ⟨x0, x1⟩ h h4 (by omega), fun h5 => k5 hin ⟨x0, x1⟩ h h4 h5⟩, fun h4 => k4 hin ⟨x0, x1⟩ h h4⟩
  intro v m1 f hv
  refine ⟨v, m1, g, rfl, rfl, fun j => f.1 1001 j (by omega), rfl, mod m1 _ f (fun q1 => ?_) (fun q1 q2 => ?_) (fun q1 q2 q3 => ?_) (fun q1 q2 q3 q4 => ?_) (fun q1 q2 q3 q4 q5 => ?_) (fun q1 q2 q3 q4 q5 => ?_)⟩
  · exact p_m (by omega) (I_q hI f n_Q_refl)
  · exact p_m (by omega) (I_q hI f n_Q_refl)
  · exact p_m (by omega) (I_q hI f n_Q_refl)
  · exact p_m (by omega) (I_q hI f n_Q_refl)
  · exact p_m (by omega) (I_q hI f n_Q_refl)
  · omega
theorem formed_end {L : Nat} {m m2 m4 : z_M} {g : z_g} {u x a : Int} (hI : I L m g) (hu : z_ok u) (hx : z_ok x) (ha : z_ok a) (h0 : 0 ≤ u) (h1 : u < m 1 1) (h2 : 0 ≤ a) (h3 : a < 4) (x0 : 1 ≤ x) (x1 : x < s_p m) (h4 : 0 ≤ r_len m a) (h5 : (x_many (s_U m u) : Int) - 2 ≤ r_len m a) (h6 : m 1 3 < 6) (hT2 : i_T m2) (v2 : ∀ k, k < x_many (s_U m u) → m2 130 (x_at (s_U m u) k) = f_val (s_p m) (s_U m u) (fun i => m (116 + a.toNat) i) x k) (z2 : ∀ e, e < 13 → (∀ k, k < x_many (s_U m u) → ¬ x_at (s_U m u) k = e) → m2 130 e = 0) (F4 : ∀ b j, ¬ (29 ≤ b ∧ b ≤ 64) → ¬ b = 130 → ¬ (b = 109 ∧ j = 0) → ¬ ((b = 3 ∨ b = 4 ∨ b = 5) ∧ j = (m 1 3).toNat) → ¬ (b = 7 + (m 1 3).toNat ∧ j < 13) → ¬ (b = 1 ∧ j = 3) → m4 b j = m b j) (G4 : ∀ b j, (29 ≤ b ∧ b ≤ 108) → m4 b j = m2 b j) (c2 : ∀ j, j < 13 → m4 (7 + (m 1 3).toNat) j = m2 130 j) (w1 : m4 3 (m 1 3).toNat = u) (w2 : m4 4 (m 1 3).toNat = 0) (w3 : m4 5 (m 1 3).toNat = 0) (w5 : m4 1 3 = m 1 3 + 1) (w6 : m4 109 0 = 0) : ∃ v' m1 g1, (.inl (m 1 3) : q_V) = .inl v' ∧ z_st m4 g = z_st m1 g1 ∧ (∀ j, m1 1001 j = m 1001 j) ∧ g1.1 = g.1 ∧ z_C 240 [.inr (.inr 131), .inl u, .inl x, .inl a] (z_st m1 g1) (fun r' S'' => ∃ v'' m3 g3, r' = .inl v'' ∧ S'' = z_st m3 g3 ∧ q_w v' = q_w v'' ∧ I L m3 g3) := by
  have hh := hI
  obtain ⟨hg, hSc, hD, hC, hZ, hR, hK, hSt, hL, hX, hW, hF⟩ := hh
  have hV := hC.1
  have hT := hC.2.1
  have v1 := hV.2.1
  have v3 := hV.2.2.1
  have hp := s_p_pr hV
  have hp5 := z_pr_le hp
  have hra := r_len_rng (a := a) hL
  obtain ⟨eS, hS⟩ := s_U_V hV h0 h1
  have hS' := hS
  obtain ⟨s1, s2, s3⟩ := hS'
  have ea : r_len m a = m 120 a.toNat := if_pos ⟨h2, h3⟩
  -- the model
  have e8 : m4 131 8 = m 1 3 := by rw [F4 131 8 (by omega) (by omega) (by omega) (by omega) (by omega) (by omega)]; exact hR.1.2.2.1
  have nfr : n_fr m m4 := ⟨F4 131 1 (by omega) (by omega) (by omega) (by omega) (by omega) (by omega), fun b j _ _ => F4 b j (by omega) (by omega) (by omega) (by omega) (by omega) (by omega)⟩
  refine ⟨m 1 3, m4, g, rfl, rfl, fun j => F4 1001 j (by omega) (by omega) (by omega) (by omega) (by omega) (by omega), rfl, ?_⟩
  -- walk once more: the state differs from m in the sums, so the walk is done by hand
  have e3 : m4 131 3 = m 1 1 := by rw [F4 131 3 (by omega) (by omega) (by omega) (by omega) (by omega) (by omega)]; exact hR.1.2.1
  have e161 : m4 161 a.toNat = r_len m a := by rw [ea, F4 161 _ (by omega) (by omega) (by omega) (by omega) (by omega) (by omega)]; exact (hL a.toNat (by omega)).2.2.1
  have e133 : m4 133 u.toNat = (s_U m u : Int) := by rw [F4 133 _ (by omega) (by omega) (by omega) (by omega) (by omega) (by omega), (hR.2.1 u.toNat (by omega)).1]; exact eS
  have hP4 := I_nP hV hR nfr
  refine y_240 (n_isSupport hu e3 v1 (fun _ _ => y_240_3 ⟨(by unfold z_ok; omega), (fun h => absurd h (by omega)), fun _ => n_isList ha (fun _ _ => y_240_6 ⟨(by unfold z_ok; omega), fun _ => n_isRoot hx hP4 (fun _ _ => y_240_12 ⟨(by unfold z_ok; omega), fun _ => ⟨⟨by omega, by omega⟩, ?_⟩, (fun h => absurd h (by omega))⟩) (fun h => absurd ⟨x0, x1⟩ h), (fun h => absurd h (by omega))⟩) (fun h => absurd ⟨h2, h3⟩ h)⟩) (fun h => absurd ⟨h0, h1⟩ h))
  rw [e161, e133]
  refine ⟨(by unfold z_ok; omega), fun _ => ⟨⟨by omega, by omega⟩, n_many (by omega) (y_240_29 ⟨⟨by omega, by omega⟩, ?_⟩)⟩, (fun h => absurd h (by omega))⟩
  rw [e161, e8]
  refine ⟨(by unfold z_ok2; omega), fun _ => ⟨(by unfold z_ok2; omega), fun _ => ?_, (fun h => absurd h (by omega))⟩, (fun h => absurd h (by omega))⟩
  refine n_newSum (n := m 1 3) (by rw [z_un (by omega)]; exact e8) v3.1 h6 fun m5 f5 u1 u2 u3 u4 u5 => ?_
  have f5' : ∀ b j, ¬ ((b = 134 ∨ b = 135 ∨ b = 136) ∧ j = (m 1 3).toNat) → ¬ (b = 137 ∧ 13 * (m 1 3).toNat ≤ j ∧ j < 13 * (m 1 3).toNat + 13) → ¬ (b = 131 ∧ (j = 8 ∨ j = 41)) → m5 b j = m4 b j := fun b j q1 q2 q3 => by rw [f5 b j q1 q2 (by omega), z_un (by omega)]
  have hP5 : n_P m5 (s_p m) := ⟨hP4.1, by rw [f5' 131 1 (by omega) (by omega) (by omega)]; exact hP4.2.1, by rw [f5' 131 1 (by omega) (by omega) (by omega)]; exact hP4.2.2.1, by rw [f5' 131 1 (by omega) (by omega) (by omega), f5' 132 _ (by omega) (by omega) (by omega)]; exact hP4.2.2.2⟩
  refine n_formNumbers (p := s_p m) (S := s_U m u) (l := fun i => m (116 + a.toNat) i) (n := m 1 3) hP5 hS hx h2 h3 v3.1 h6 (by omega) (fun i hi => ?_) rfl rfl fun m6 f6 v6 z6 => ?_
  · rw [f5' 162 _ (by omega) (by omega) (by omega), F4 162 _ (by omega) (by omega) (by omega) (by omega) (by omega) (by omega)]
    exact (hL a.toNat (by omega)).2.2.2 i hi
  have G6 : ∀ b j, b < 131 → m6 b j = m4 b j := fun b j h => by rw [f6 b j (by omega), f5' b j (by omega) (by omega) (by omega)]
  have F6 : ∀ b j, ¬ (29 ≤ b ∧ b ≤ 64) → ¬ b = 130 → ¬ (b = 109 ∧ j = 0) → ¬ ((b = 3 ∨ b = 4 ∨ b = 5 ∨ b = 134 ∨ b = 135 ∨ b = 136) ∧ j = (m 1 3).toNat) → ¬ (b = 7 + (m 1 3).toNat ∧ j < 13) → ¬ (b = 1 ∧ j = 3) → ¬ (b = 137 ∧ 13 * (m 1 3).toNat ≤ j ∧ j < 13 * (m 1 3).toNat + 13) → ¬ (b = 131 ∧ (j = 8 ∨ j = 41)) → m6 b j = m b j := fun b j q1 q2 q3 q4 q5 q6 q7 q8 => by rw [f6 b j q7, f5' b j (by omega) q7 q8, F4 b j q1 q2 q3 (by omega) q5 q6]
  have T6 : ∀ e, e < 13 → m6 137 (13 * (m 1 3).toNat + e) = m2 130 e ∧ 0 ≤ m2 130 e ∧ m2 130 e ≤ 99 := by
    intro e he
    by_cases hex : ∃ k, k < x_many (s_U m u) ∧ x_at (s_U m u) k = e
    · obtain ⟨k, hk, ek⟩ := hex
      rw [← ek, v6 k hk, v2 k hk]
      have := z_m0 (p := s_p m) (a := f_tot (s_p m) (s_U m u) (fun i => m (116 + a.toNat) i) k (x_many (s_U m u) - 2) * z_inv (s_p m) (x ^ x_at (s_U m u) k % s_p m)) (by omega)
      unfold f_val
      exact ⟨rfl, this.1, by omega⟩
    · have hno : ∀ k, k < x_many (s_U m u) → ¬ x_at (s_U m u) k = e := fun k hk ek => hex ⟨k, hk, ek⟩
      rw [z6 e he hno, z2 e he hno, u4 e he]
      omega
  refine p_m rfl (I_newSum (a := u) (b := 0) (c := 0) (T := fun e => m2 130 e) hI rfl h6 ⟨h0, h1⟩ (by decide) (by decide) (fun e he => (T6 e (by omega)).2) (fun b j q0 q1 q2 q3 q4 q5 q6 => F6 b j (by unfold z_scr at q0; omega) (by unfold z_scr at q0; omega) q6 q1 (by omega) q4 q3 q5) (i_T_of (fun b j _ _ => by rw [G6 b j (by omega), G4 b j (by omega)]) hT2) ?_ ⟨?_, ?_⟩ ⟨?_, ?_⟩ ⟨?_, ?_⟩ (fun e he => ⟨?_, (T6 e he).1⟩) ⟨?_, ?_⟩ ⟨?_, ?_⟩)
  · show _ = _; rw [F6 72 12 (by omega) (by omega) (by omega) (by omega) (by omega) (by omega) (by omega) (by omega)]; exact hZ
  · rw [G6 3 _ (by omega)]; exact w1
  · rw [f6 134 _ (by omega)]; exact u1
  · rw [G6 4 _ (by omega)]; exact w2
  · rw [f6 135 _ (by omega)]; exact u2
  · rw [G6 5 _ (by omega)]; exact w3
  · rw [f6 136 _ (by omega)]; exact u3
  · rw [G6 _ _ (by omega)]; exact c2 e he
  · rw [G6 1 3 (by omega)]; exact w5
  · rw [f6 131 8 (by omega)]; exact u5
  · rw [G6 109 0 (by omega)]; exact w6
  · rw [f6 131 41 (by omega), f5 131 41 (by omega) (by omega) (by omega), z_ue rfl rfl]
theorem p_formed {L : Nat} {m : z_M} {g : z_g} {u x a : Int} (hI : I L m g) (hu : z_ok u) (hx : z_ok x) (ha : z_ok a) : z_pI (I L) 91 240 [.inl u, .inl x, .inl a] m g := by
  have hh := hI
  obtain ⟨hg, hSc, hD, hC, hZ, hR, hK, hSt, hL, hX, hW, hF⟩ := hh
  have hV := hC.1
  have hT := hC.2.1
  have v1 := hV.2.1
  have v3 := hV.2.2.1
  have hp := s_p_pr hV
  have hp5 := z_pr_le hp
  have hra := r_len_rng (a := a) hL
  have bad := formed_bad hI hu hx ha
  have hq0 := c_Q_refl hT hZ
  refine y_91 (c_isSupportB hu hV (fun h0 h1 => y_91_3 ⟨(by unfold z_ok; omega), (fun h => absurd h (by omega)), fun _ => c_isList ha (fun h2 h3 => y_91_8 ⟨(by unfold z_ok; omega), fun _ => c_isPoint hx hC (fun x0 x1 => y_91_14 ⟨(by unfold z_ok; omega), fun _ => c_isMade ha hL (fun h4 => y_91_21 ⟨(by unfold z_ok; omega), fun _ => ⟨⟨by omega, by omega⟩, ?_⟩, (fun h => absurd h (by omega))⟩) (fun h4 => y_91_21 ⟨(by unfold z_ok; omega), (fun h => absurd h (by omega)), fun _ => bad _ m hq0 (by omega)⟩), (fun h => absurd h (by omega))⟩) (fun h4 => y_91_14 ⟨(by unfold z_ok; omega), (fun h => absurd h (by omega)), fun _ => bad _ m hq0 (by omega)⟩), (fun h => absurd h (by omega))⟩) (fun h4 => y_91_8 ⟨(by unfold z_ok; omega), (fun h => absurd h (by omega)), fun _ => bad _ m hq0 (by omega)⟩)⟩) (fun h4 => y_91_3 ⟨(by unfold z_ok; omega), fun _ => bad _ m hq0 (by omega), (fun h => absurd h (by omega))⟩))
  obtain ⟨eS, hS⟩ := s_U_V hV h0 h1
  have hS' := hS
  obtain ⟨s1, s2, s3⟩ := hS'
  rw [eS]
  refine c_ebecome_a (by omega) s3 fun m1 f1 hE => y_91_32 ?_
  have hq1 := c_Q_e hT hZ f1
  have ea : r_len m a = m 120 a.toNat := if_pos ⟨h2, h3⟩
  have el : r_len m1 a = r_len m a := by unfold r_len; rw [f1 120 _ (by omega)]
  refine c_len ha (y_91_36 (c_rels_a s2 s3 hE (y_91_39 ?_)))
  rw [el, f1 1 3 (by omega)]
  refine ⟨(by unfold z_ok2; omega), fun h5 => ⟨(by unfold z_ok2; omega), fun h6 => ?_, fun h6 => bad _ m1 hq1 (by omega)⟩, fun h5 => bad _ m1 hq1 (by omega)⟩
  have hC1 : i_C m1 := ⟨i_V_of (fun b j _ _ => f1 b j (by omega)) hV, hq1.2.1, i_P_of (fun j => f1 1002 j (by omega)) hC.2.2⟩
  have ep : s_p m1 = s_p m := by unfold s_p; rw [f1 1 0 (by omega)]
  have hL1 : i_L m1 := i_L_of (fun b j h => f1 b j (by omega)) hL
  refine c_formNumbers (l := fun i => m (116 + a.toNat) i) hC1 hL1 hS hE x0 (by rw [ep]; exact x1) ha h2 h3 (by rw [f1 120 _ (by omega)]; omega) (fun i hi => f1 _ i (by omega)) fun m2 f2 hT2 v2 z2 => y_91_53 (y_103 (c_clear (y_103_3 ?_)))
  rw [ep] at v2
  have f2' : ∀ b j, (b < 29 ∨ 64 < b) → ¬ b = 130 → m2 b j = m b j := fun b j q1 q2 => by rw [f2 b j (by omega) q2, f1 b j (by omega)]
  refine c_newSum (n := m 1 3) (by rw [z_un (by omega), f2' 1 3 (by omega) (by omega)]) v3.1 h6 fun m3 f3 w1 w2 w3 w4 w5 => y_103_9 ?_
  have f3' : ∀ b j, ¬ (b = 109 ∧ j = 0) → ¬ ((b = 3 ∨ b = 4 ∨ b = 5) ∧ j = (m 1 3).toNat) → ¬ (b = 7 + (m 1 3).toNat ∧ j < 13) → ¬ (b = 1 ∧ j = 3) → m3 b j = m2 b j := fun b j q1 q2 q3 q4 => by rw [f3 b j q2 q3 q4, z_un q1]
  refine y_104 ⟨(by unfold z_ok; omega), (fun h => absurd h (by omega)), fun _ => ?_⟩
  rw [w5]
  refine ⟨(by unfold z_ok2; omega), (fun h => absurd h (by omega)), fun _ => ⟨by unfold z_ok2; decide, fun h => absurd h (by decide), fun _ => ⟨z_rw6 (by omega) (by omega), ⟨⟨by decide, rfl⟩, z_sp6 (by omega)⟩, by decide, y_103_16 (y_91_56 ?_)⟩⟩⟩
  have c1 : ∀ b j, ¬ (b = 7 + (m 1 3).toNat ∧ j < 13) → (q_cpy m3 130 (0 : Int).toNat (7 + (m 1 3).toNat) (0 : Int).toNat (13 : Int).toNat) b j = m3 b j := fun b j h => q_cp_n (by omega)
  have c2 : ∀ j, j < 13 → (q_cpy m3 130 (0 : Int).toNat (7 + (m 1 3).toNat) (0 : Int).toNat (13 : Int).toNat) (7 + (m 1 3).toNat) j = m2 130 j := fun j h => by
    rw [q_cp_e (by omega) (by omega), f3' _ _ (by omega) (by omega) (by omega) (by omega)]
    congr 1
    omega
  generalize (q_cpy m3 130 (0 : Int).toNat (7 + (m 1 3).toNat) (0 : Int).toNat (13 : Int).toNat) = m4 at c1 c2
  have F4 : ∀ b j, ¬ (29 ≤ b ∧ b ≤ 64) → ¬ b = 130 → ¬ (b = 109 ∧ j = 0) → ¬ ((b = 3 ∨ b = 4 ∨ b = 5) ∧ j = (m 1 3).toNat) → ¬ (b = 7 + (m 1 3).toNat ∧ j < 13) → ¬ (b = 1 ∧ j = 3) → m4 b j = m b j := fun b j q1 q2 q3 q4 q5 q6 => by rw [c1 b j q5, f3' b j q3 q4 q5 q6, f2' b j (by omega) q2]
  have G4 : ∀ b j, (29 ≤ b ∧ b ≤ 108) → m4 b j = m2 b j := fun b j q1 => by rw [c1 b j (by omega), f3' b j (by omega) (by omega) (by omega) (by omega)]
  exact formed_end hI hu hx ha h0 h1 h2 h3 x0 x1 h4 h5 h6 hT2 v2 z2 F4 G4 c2 (by rw [c1 3 _ (by omega)]; exact w1) (by rw [c1 4 _ (by omega)]; exact w2) (by rw [c1 5 _ (by omega)]; exact w3) (by rw [c1 1 3 (by omega)]; exact w5) (by rw [c1 109 0 (by omega), f3 109 0 (by omega) (by omega) (by omega), z_ue rfl rfl])
