/-! PAIRS: turned, the pair -/
theorem I_newSupport {L : Nat} {m m4 : z_M} {g : z_g} {S : Nat} (hI : I L m g) (hl : m 1 1 < 6) (hx : x_V S) (F : ∀ a j, ¬ (a = 109 ∧ j = 0) → ¬ ((a = 2 ∨ a = 133) ∧ j = (m 1 1).toNat) → ¬ (a = 1 ∧ j = 1) → ¬ (a = 131 ∧ (j = 3 ∨ j = 41)) → m4 a j = m a j) (w1 : m4 109 0 = 0) (w2 : m4 2 (m 1 1).toNat = S) (w3 : m4 1 1 = m 1 1 + 1) (w4 : m4 133 (m 1 1).toNat = S) (w5 : m4 131 3 = m 1 1 + 1) (w6 : m4 131 41 = 0) : I L m4 g := by
  have hh := hI
  obtain ⟨hg, hSc, hD, ⟨hV, hT, hP⟩, hZ, hR, hK, hSt, hL, hX, hW, hF⟩ := hh
  have v2 := hV.2.1
  refine (I_gen hI (fun a j h => F a j (by unfold z_chg z_sts at h; omega) (by unfold z_chg at h; omega) (by unfold z_chg at h; omega) (by unfold z_chg z_sts at h; omega)) ?_ (i_T_of (fun a j _ _ => F a j (by omega) (by omega) (by omega) (by omega)) hT) (by show _ = _; rw [F 72 12 (by omega) (by omega) (by omega) (by omega)]; exact hZ) ?_ (i_St_0 w1 w6))
  · obtain ⟨g1, g2, g3, g4, g5, g6, g7⟩ := hV
    unfold i_V
    rw [F 1 0 (by omega) (by omega) (by omega) (by omega), w3, F 1 3 (by omega) (by omega) (by omega) (by omega), F 1 8 (by omega) (by omega) (by omega) (by omega)]
    refine ⟨g1, by omega, g3, g4, fun i hi => ?_, fun t ht => ?_, fun i hi => ?_⟩
    · by_cases hin : i = (m 1 1).toNat
      · rw [hin, w2]; exact ⟨S, rfl, hx⟩
      · rw [F 2 i (by omega) (by omega) (by omega) (by omega)]; exact g5 i (by omega)
    · rw [F 3 t (by omega) (by omega) (by omega) (by omega), F 4 t (by omega) (by omega) (by omega) (by omega), F 5 t (by omega) (by omega) (by omega) (by omega)]
      obtain ⟨k1, k2, k3, k4, k5, k6, k7⟩ := g6 t ht
      refine ⟨k1, by omega, k3, k4, k5, k6, fun i hi => ?_⟩
      rw [F (7 + t) i (by omega) (by omega) (by omega) (by omega)]; exact k7 i hi
    · rw [F 13 i (by omega) (by omega) (by omega) (by omega), F 14 i (by omega) (by omega) (by omega) (by omega)]; exact g7 i hi
  · obtain ⟨⟨a1, a2, a3, a4⟩, b, c, d, e'⟩ := hR
    refine ⟨⟨?_, ?_, ?_, ?_⟩, fun i hi => ?_, fun t k ht hk => ?_, fun i hi => ?_, fun j hj => ?_⟩
    · rw [F 131 1 (by omega) (by omega) (by omega) (by omega), F 1 0 (by omega) (by omega) (by omega) (by omega)]; exact a1
    · rw [w5, w3]
    · rw [F 131 8 (by omega) (by omega) (by omega) (by omega), F 1 3 (by omega) (by omega) (by omega) (by omega)]; exact a3
    · rw [F 131 28 (by omega) (by omega) (by omega) (by omega), F 1 8 (by omega) (by omega) (by omega) (by omega)]; exact a4
    · rw [F 134 i (by omega) (by omega) (by omega) (by omega), F 3 i (by omega) (by omega) (by omega) (by omega), F 135 i (by omega) (by omega) (by omega) (by omega), F 136 i (by omega) (by omega) (by omega) (by omega), F 4 i (by omega) (by omega) (by omega) (by omega), F 5 i (by omega) (by omega) (by omega) (by omega)]
      by_cases hin : i = (m 1 1).toNat
      · refine ⟨?_, (b i hi).2⟩
        rw [hin, w2, w4]
      · rw [F 133 i (by omega) (by omega) (by omega) (by omega), F 2 i (by omega) (by omega) (by omega) (by omega)]; exact b i hi
    · rw [F 137 _ (by omega) (by omega) (by omega) (by omega), F (7 + t) k (by omega) (by omega) (by omega) (by omega)]; exact c t k ht hk
    · rw [F 151 i (by omega) (by omega) (by omega) (by omega), F 152 i (by omega) (by omega) (by omega) (by omega), F 13 i (by omega) (by omega) (by omega) (by omega), F 14 i (by omega) (by omega) (by omega) (by omega)]; exact d i hi
    · rw [F 132 j (by omega) (by omega) (by omega) (by omega)]; exact e' j hj
/-- the model's way to the search for the support -/
theorem n_turn {L : Nat} {m m4 : z_M} {g : z_g} {Q : q_V → q_S → Prop} {s : Int} (hI : I L m g) (hs : z_ok s) (h0 : 0 ≤ s) (h1 : s < m 1 3) (fr : n_fr m m4) (e8 : m4 131 8 = m 1 3) (k6 : m 1 3 = 6 → Q (.inl (-4)) (z_st m4 g)) (kk : m 1 3 < 6 → ∀ m5, (∀ a j, ¬ a = 138 → m5 a j = m4 a j) → t_R m5 138 (s_N m s) → z_C 257 [.inr (.inr 131), .inl (x_mir (s_S m s) : Int)] (z_st m5 g) (fun v S' => z_T 256 48 [.inr (.inr 131), .inl s, .inl (s_S m s : Int), .inl (x_c (s_S m s) : Int), .inl (x_mir (s_S m s) : Int), .inl (x_many (s_S m s) : Int), q_dead, q_dead] (q_push v []) S' Q)) : z_C 256 [.inr (.inr 131), .inl s] (z_st m4 g) Q := by
  have hV := hI.2.2.2.1.1
  have hR := hI.2.2.2.2.2.1
  have v3 := hV.2.2.1
  have hS := I_nS hV hR h0 h1 fr
  refine y_256 (n_isSum hs e8 v3 (fun _ _ => y_256_3 ⟨(by unfold z_ok; omega), fun _ => ?_, (fun h => absurd h (by omega))⟩) (fun h => absurd ⟨h0, h1⟩ h))
  rw [e8]
  exact ⟨(by unfold z_ok2; omega), fun h => n_setOf hS (n_mirBits hS.2.2.2.2.1 (n_looks hS fun m5 f5 r5 => y_256_45 (kk (by omega) m5 f5 r5))), fun h => k6 h⟩
theorem turned_end {L : Nat} {m mS m4 : z_M} {g : z_g} {Q : q_V → q_S → Prop} {s u : Int} (hI : I L m g) (hIS : I L mS g) (h0 : 0 ≤ s) (h1 : s < m 1 3) (h6 : m 1 3 < 6) (u0 : 0 ≤ u) (u1 : u < mS 1 1) (v130 : ∀ k, k < x_many (s_S m s) → m 130 (x_c (s_S m s) - x_at (s_S m s) k) = s_N m s (x_at (s_S m s) k)) (z130 : ∀ e, e < 13 → (∀ k, k < x_many (s_S m s) → ¬ x_c (s_S m s) - x_at (s_S m s) k = e) → m 130 e = 0) (eS : mS 1 3 = m 1 3) (fS : ∀ b j, ¬ (b = 109 ∧ j = 0) → ¬ ((b = 3 ∨ b = 4 ∨ b = 5) ∧ j = (m 1 3).toNat) → ¬ (b = 7 + (m 1 3).toNat ∧ j < 13) → ¬ (b = 1 ∧ j = 3) → ¬ b = 138 → ¬ (b = 131 ∧ j = 41) → m4 b j = mS b j) (r138 : t_R m4 138 (s_N m s)) (w0 : ∀ j, j < 13 → m4 (7 + (m 1 3).toNat) j = m 130 j) (w1 : m4 3 (m 1 3).toNat = u) (w2 : m4 4 (m 1 3).toNat = 0) (w3 : m4 5 (m 1 3).toNat = 0) (w5 : m4 1 3 = m 1 3 + 1) (w6 : m4 109 0 = 0) (kk : ∀ m6, I L m6 g → Q (.inl (m 1 3)) (z_st m6 g)) : z_T 256 48 [.inr (.inr 131), .inl s, .inl (s_S m s : Int), .inl (x_c (s_S m s) : Int), .inl (x_mir (s_S m s) : Int), .inl (x_many (s_S m s) : Int), q_dead, q_dead] [.inl u] (z_st m4 g) Q := by
  have hV := hI.2.2.2.1.1
  have v3 := hV.2.2.1
  have vS := hIS.2.2.2.1.1.2.1
  have hp := s_p_pr hV
  have hp5 := z_pr_le hp
  have hSV := (s_S_V hV h0 h1).1
  have hN := s_N_N (s := s) hV
  have e8 : m4 131 8 = m 1 3 := by rw [fS 131 8 (by omega) (by omega) (by omega) (by omega) (by omega) (by omega), hIS.2.2.2.2.2.1.1.2.2.1]; exact eS
  refine y_256_48 ⟨(by unfold z_ok; omega), fun _ => n_newSum (n := m 1 3) (by rw [z_un (by omega)]; exact e8) v3.1 h6 fun m5 f5 a1 a2 a3 a4 a5 => ?_, (fun h => absurd h (by omega))⟩
  have f5' : ∀ b j, ¬ ((b = 134 ∨ b = 135 ∨ b = 136) ∧ j = (m 1 3).toNat) → ¬ (b = 137 ∧ 13 * (m 1 3).toNat ≤ j ∧ j < 13 * (m 1 3).toNat + 13) → ¬ (b = 131 ∧ (j = 8 ∨ j = 41)) → m5 b j = m4 b j := fun b j q1 q2 q3 => by rw [f5 b j q1 q2 (by omega), z_un (by omega)]
  refine n_mirror (N := s_N m s) (n := m 1 3) hSV (fun i hi => by rw [f5' 138 i (by omega) (by omega) (by omega)]; exact r138 i hi) v3.1 h6 fun m6 f6 t6 => kk m6 ?_
  have G6 : ∀ b j, b < 131 → m6 b j = m4 b j := fun b j h => by rw [f6 b j (by omega), f5' b j (by omega) (by omega) (by omega)]
  have F6 : ∀ b j, ¬ z_scr b j → ¬ ((b = 3 ∨ b = 4 ∨ b = 5 ∨ b = 134 ∨ b = 135 ∨ b = 136) ∧ j = (m 1 3).toNat) → ¬ (b = 7 + (m 1 3).toNat) → ¬ (b = 137 ∧ 13 * (m 1 3).toNat ≤ j ∧ j < 13 * (m 1 3).toNat + 13) → ¬ (b = 1 ∧ j = 3) → ¬ (b = 131 ∧ (j = 8 ∨ j = 41)) → ¬ (b = 109 ∧ j = 0) → m6 b j = mS b j := fun b j q0 q1 q2 q3 q4 q5 q6 => by
    have h138 : ¬ b = 138 := fun h => q0 (by unfold z_scr; omega)
    rw [f6 b j q3, f5' b j (by omega) q3 q5, fS b j q6 (by omega) (by omega) q4 h138 (by omega)]
  have T6 : ∀ e, e < 13 → m6 137 (13 * (m 1 3).toNat + e) = m 130 e ∧ 0 ≤ m 130 e ∧ m 130 e ≤ 99 := by
    intro e he
    rw [t6 e he]
    by_cases hb : (x_mir (s_S m s)).testBit e = true
    · rw [if_pos hb]
      obtain ⟨k, hk, ek⟩ := (t_b_bit _).1 hb
      have r := x_c_rng hk
      have v := v130 k hk
      rw [ek] at v
      rw [v, show x_c (s_S m s) - e = x_at (s_S m s) k by omega]
      have := hN.1 (x_at (s_S m s) k)
      exact ⟨rfl, this.1, by omega⟩
    · rw [if_neg hb, z130 e he (fun k hk ek => hb ((t_b_bit _).2 ⟨k, hk, ek⟩))]
      omega
  have iT : i_T m6 := i_T_of (fun b j _ _ => by rw [G6 b j (by omega), fS b j (by omega) (by omega) (by omega) (by omega) (by omega) (by omega)]) hIS.2.2.2.1.2.1
  have iZ : i_Z m6 := by
    show _ = _
    rw [G6 72 12 (by omega), fS 72 12 (by omega) (by omega) (by omega) (by omega) (by omega) (by omega)]
    exact hIS.2.2.2.2.1
  refine I_newSum (n := m 1 3) (a := u) (b := 0) (c := 0) (T := fun e => m 130 e) hIS eS h6 ⟨u0, u1⟩ (by decide) (by decide) (fun e he => (T6 e (by omega)).2) F6 iT iZ ⟨?_, ?_⟩ ⟨?_, ?_⟩ ⟨?_, ?_⟩ (fun e he => ⟨?_, (T6 e he).1⟩) ⟨?_, ?_⟩ ⟨?_, ?_⟩
  · rw [G6 3 _ (by omega)]; exact w1
  · rw [f6 134 _ (by omega)]; exact a1
  · rw [G6 4 _ (by omega)]; exact w2
  · rw [f6 135 _ (by omega)]; exact a2
  · rw [G6 5 _ (by omega)]; exact w3
  · rw [f6 136 _ (by omega)]; exact a3
  · rw [G6 _ _ (by omega)]; exact w0 e he
  · rw [G6 1 3 (by omega)]; exact w5
  · rw [f6 131 8 (by omega)]; exact a5
  · rw [G6 109 0 (by omega)]; exact w6
  · rw [f6 131 41 (by omega), f5 131 41 (by omega) (by omega) (by omega), z_ue rfl rfl]
/-- from the class's mirrored numbers on -/
theorem p_turned_put {L : Nat} {m : z_M} {g : z_g} {s : Int} {x : Nat → Int} (hx : ∀ j, m 1001 j = x j) (hI : I L m g) (hs : z_ok s) (h0 : 0 ≤ s) (h1 : s < m 1 3) (v130 : ∀ k, k < x_many (s_S m s) → m 130 (x_c (s_S m s) - x_at (s_S m s) k) = s_N m s (x_at (s_S m s) k)) (z130 : ∀ e, e < 13 → (∀ k, k < x_many (s_S m s) → ¬ x_c (s_S m s) - x_at (s_S m s) k = e) → m 130 e = 0) : z_C 119 [.inr (.inr 0), .inl (x_mir (s_S m s) : Int)] (z_st m g) (fun r S' => ∃ v m1 g1, r = .inl v ∧ S' = z_st m1 g1 ∧ (∀ j, m1 1001 j = x j) ∧ g1.1 = g.1 ∧ z_C 256 [.inr (.inr 131), .inl s] (z_st m1 g1) (fun r' S'' => ∃ v' m2 g2, r' = .inl v' ∧ S'' = z_st m2 g2 ∧ q_w v = q_w v' ∧ I L m2 g2)) := by
  have hV := hI.2.2.2.1.1
  have hR := hI.2.2.2.2.2.1
  have v1 := hV.2.1
  have v3 := hV.2.2.1
  have hSV := (s_S_V hV h0 h1).1
  have hU := x_mir_V hSV
  have r3 : m 131 3 = m 1 1 := hR.1.2.1
  have r8 : m 131 8 = m 1 3 := hR.1.2.2.1
  have r133 : ∀ i : Nat, (i : Int) < m 1 1 → m 133 i = m 2 i := fun i hi => (hR.2.1 i (by omega)).1
  have hr : ∀ (m5 : z_M), (∀ j, m5 133 j = m 133 j) → ∀ i : Nat, (i : Int) < m 1 1 → 0 ≤ m5 133 i ∧ m5 133 i < 8192 := fun m5 h i hi => by
    obtain ⟨S', e, hx⟩ := hV.2.2.2.2.1 i hi
    rw [h i, r133 i hi, e]
    have := hx.1
    omega
  refine y_119 (c_find hU.1 hV (fun i hi ei hno => y_119_4 ⟨(by unfold z_ok2; omega), fun h6 => ?_, fun h6 => ⟨(by unfold z_ok; omega), fun _ => ⟨(by unfold z_ok; omega), fun _ => ?_, (fun h => absurd h (by omega))⟩, (fun h => absurd h (by omega))⟩⟩) (fun hno => y_119_4 ⟨(by unfold z_ok2; omega), fun h6 => ?_, fun h6 => ⟨(by unfold z_ok; omega), (fun h => absurd h (by omega)), fun _ => ⟨(by unfold z_ok2; omega), fun h7 => ⟨(by unfold z_ok; omega), (fun h => absurd h (by omega)), fun _ => ?_⟩, fun h7 => ?_⟩⟩⟩))
  · exact ⟨-4, m, g, rfl, rfl, hx, rfl, n_turn hI hs h0 h1 ⟨rfl, fun _ _ _ _ => rfl⟩ r8 (fun _ => p_m rfl hI) (fun h => absurd h (by omega))⟩
  · refine c_putSum (n := m 1 3) rfl v3.1 h6 fun m4 f4 w0 w1 w2 w3 w5 w6 => y_119_29 ⟨m 1 3, m4, g, rfl, rfl, fun j => by rw [f4 1001 j (by omega) (by omega) (by omega) (by omega)]; exact hx j, rfl, ?_⟩
    refine n_turn hI hs h0 h1 ⟨f4 131 1 (by omega) (by omega) (by omega) (by omega), fun b j _ _ => f4 b j (by omega) (by omega) (by omega) (by omega)⟩ (by rw [f4 131 8 (by omega) (by omega) (by omega) (by omega)]; exact r8) (fun h => absurd h (by omega)) (fun _ m5 f5 t5 => ?_)
    have g133 : ∀ j, m5 133 j = m 133 j := fun j => by rw [f5 133 j (by omega), f4 133 j (by omega) (by omega) (by omega) (by omega)]
    refine n_find (n := m 1 1) hU.1 (by rw [f5 131 3 (by omega), f4 131 3 (by omega) (by omega) (by omega) (by omega)]; exact r3) v1.1 v1.2 (hr m5 g133) (fun i' hi' ei' hno' => ?_) (fun h => absurd ((g133 i).trans ((r133 i hi).trans ei)) (h i hi)) (fun h => absurd ((g133 i).trans ((r133 i hi).trans ei)) (h i hi))
    have hii : i' = i := by
      rcases Nat.lt_trichotomy i' i with h | h | h
      · exact absurd ((r133 i' hi').symm.trans ((g133 i').symm.trans ei')) (hno i' h)
      · exact h
      · exact absurd ((g133 i).trans ((r133 i hi).trans ei)) (hno' i h)
    subst hii
    exact turned_end (mS := m) hI hI h0 h1 h6 (by omega) hi v130 z130 rfl (fun b j q1 q2 q3 q4 q5 q6 => by rw [f5 b j q5, f4 b j q1 q2 q3 q4]) t5 (fun j hj => by rw [f5 _ _ (by omega)]; exact w0 j hj) (by rw [f5 _ _ (by omega)]; exact w1) (by rw [f5 _ _ (by omega)]; exact w2) (by rw [f5 _ _ (by omega)]; exact w3) (by rw [f5 _ _ (by omega)]; exact w5) (by rw [f5 _ _ (by omega)]; exact w6) (fun m6 hI6 => p_m rfl hI6)
  · exact ⟨-4, m, g, rfl, rfl, hx, rfl, n_turn hI hs h0 h1 ⟨rfl, fun _ _ _ _ => rfl⟩ r8 (fun _ => p_m rfl hI) (fun h => absurd h (by omega))⟩
  · refine c_addSupport v1.1 h7 (y_119_26 ?_)
    have A : ∀ b j, ¬ (b = 2 ∧ j = (m 1 1).toNat) → ¬ (b = 1 ∧ j = 1) → (q_upd (q_upd m 2 (m 1 1).toNat (x_mir (s_S m s) : Int)) 1 1 (m 1 1 + 1)) b j = m b j := fun b j q1 q2 => by rw [z_un q2, z_un q1]
    have A1 : (q_upd (q_upd m 2 (m 1 1).toNat (x_mir (s_S m s) : Int)) 1 1 (m 1 1 + 1)) 2 (m 1 1).toNat = x_mir (s_S m s) := by rw [z_un (by omega), z_ue rfl rfl]
    have A2 : (q_upd (q_upd m 2 (m 1 1).toNat (x_mir (s_S m s) : Int)) 1 1 (m 1 1 + 1)) 1 1 = m 1 1 + 1 := z_ue rfl rfl
    generalize (q_upd (q_upd m 2 (m 1 1).toNat (x_mir (s_S m s) : Int)) 1 1 (m 1 1 + 1)) = mA at A A1 A2
    refine c_putSum (n := m 1 3) (A 1 3 (by omega) (by omega)) v3.1 h6 fun m4 f4 w0 w1 w2 w3 w5 w6 => y_119_29 ⟨m 1 3, m4, g, rfl, rfl, fun j => by rw [f4 1001 j (by omega) (by omega) (by omega) (by omega), A 1001 j (by omega) (by omega)]; exact hx j, rfl, ?_⟩
    have f4' : ∀ b j, 131 ≤ b → m4 b j = m b j := fun b j h => by rw [f4 b j (by omega) (by omega) (by omega) (by omega), A b j (by omega) (by omega)]
    refine n_turn hI hs h0 h1 ⟨f4' 131 1 (by omega), fun b j _ _ => f4' b j (by omega)⟩ (by rw [f4' 131 8 (by omega)]; exact r8) (fun h => absurd h (by omega)) (fun _ m5 f5 t5 => ?_)
    have g133 : ∀ j, m5 133 j = m 133 j := fun j => by rw [f5 133 j (by omega), f4' 133 j (by omega)]
    refine n_find (n := m 1 1) hU.1 (by rw [f5 131 3 (by omega), f4' 131 3 (by omega)]; exact r3) v1.1 v1.2 (hr m5 g133) (fun i' hi' ei' hno' => absurd ((r133 i' hi').symm.trans ((g133 i').symm.trans ei')) (hno i' hi')) (fun _ h => absurd h (by omega)) (fun _ _ => ?_)
    have S0 : ∀ b j, ¬ (b = 109 ∧ j = 0) → ¬ ((b = 2 ∨ b = 133) ∧ j = (m 1 1).toNat) → ¬ (b = 1 ∧ j = 1) → ¬ (b = 131 ∧ (j = 3 ∨ j = 41)) → (q_upd (q_upd (q_upd (q_upd (q_upd (q_upd m 109 0 0) 131 41 0) 2 (m 1 1).toNat (x_mir (s_S m s) : Int)) 1 1 (m 1 1 + 1)) 133 (m 1 1).toNat (x_mir (s_S m s) : Int)) 131 3 (m 1 1 + 1)) b j = m b j := fun b j q1 q2 q3 q4 => by rw [z_un (by omega), z_un (by omega), z_un (by omega), z_un (by omega), z_un (by omega), z_un (by omega)]
    have S1 : (q_upd (q_upd (q_upd (q_upd (q_upd (q_upd m 109 0 0) 131 41 0) 2 (m 1 1).toNat (x_mir (s_S m s) : Int)) 1 1 (m 1 1 + 1)) 133 (m 1 1).toNat (x_mir (s_S m s) : Int)) 131 3 (m 1 1 + 1)) 109 0 = 0 := by rw [z_un (by omega), z_un (by omega), z_un (by omega), z_un (by omega), z_un (by omega), z_ue rfl rfl]
    have S2 : (q_upd (q_upd (q_upd (q_upd (q_upd (q_upd m 109 0 0) 131 41 0) 2 (m 1 1).toNat (x_mir (s_S m s) : Int)) 1 1 (m 1 1 + 1)) 133 (m 1 1).toNat (x_mir (s_S m s) : Int)) 131 3 (m 1 1 + 1)) 2 (m 1 1).toNat = x_mir (s_S m s) := by rw [z_un (by omega), z_un (by omega), z_un (by omega), z_ue rfl rfl]
    have S3 : (q_upd (q_upd (q_upd (q_upd (q_upd (q_upd m 109 0 0) 131 41 0) 2 (m 1 1).toNat (x_mir (s_S m s) : Int)) 1 1 (m 1 1 + 1)) 133 (m 1 1).toNat (x_mir (s_S m s) : Int)) 131 3 (m 1 1 + 1)) 1 1 = m 1 1 + 1 := by rw [z_un (by omega), z_un (by omega), z_ue rfl rfl]
    have S4 : (q_upd (q_upd (q_upd (q_upd (q_upd (q_upd m 109 0 0) 131 41 0) 2 (m 1 1).toNat (x_mir (s_S m s) : Int)) 1 1 (m 1 1 + 1)) 133 (m 1 1).toNat (x_mir (s_S m s) : Int)) 131 3 (m 1 1 + 1)) 133 (m 1 1).toNat = x_mir (s_S m s) := by rw [z_un (by omega), z_ue rfl rfl]
    have S5 : (q_upd (q_upd (q_upd (q_upd (q_upd (q_upd m 109 0 0) 131 41 0) 2 (m 1 1).toNat (x_mir (s_S m s) : Int)) 1 1 (m 1 1 + 1)) 133 (m 1 1).toNat (x_mir (s_S m s) : Int)) 131 3 (m 1 1 + 1)) 131 3 = m 1 1 + 1 := z_ue rfl rfl
    have S6 : (q_upd (q_upd (q_upd (q_upd (q_upd (q_upd m 109 0 0) 131 41 0) 2 (m 1 1).toNat (x_mir (s_S m s) : Int)) 1 1 (m 1 1 + 1)) 133 (m 1 1).toNat (x_mir (s_S m s) : Int)) 131 3 (m 1 1 + 1)) 131 41 = 0 := by rw [z_un (by omega), z_un (by omega), z_un (by omega), z_un (by omega), z_ue rfl rfl]
    generalize (q_upd (q_upd (q_upd (q_upd (q_upd (q_upd m 109 0 0) 131 41 0) 2 (m 1 1).toNat (x_mir (s_S m s) : Int)) 1 1 (m 1 1 + 1)) 133 (m 1 1).toNat (x_mir (s_S m s) : Int)) 131 3 (m 1 1 + 1)) = mS at S0 S1 S2 S3 S4 S5 S6
    have hIS : I L mS g := I_newSupport hI h7 hU S0 S1 S2 S3 S4 S5 S6
    have N0 : ∀ b j, b < 131 → (q_upd (q_upd m5 133 (m 1 1).toNat (x_mir (s_S m s) : Int)) 131 3 (m 1 1 + 1)) b j = m5 b j := fun b j h => by rw [z_un (by omega), z_un (by omega)]
    refine turned_end (mS := mS) hI hIS h0 h1 h6 v1.1 (by omega) v130 z130 (S0 1 3 (by omega) (by omega) (by omega) (by omega)) (fun b j q1 q2 q3 q4 q5 q6 => ?_) (fun i hi => by rw [z_un (by omega), z_un (by omega)]; exact t5 i hi) (fun j hj => by rw [N0 _ _ (by omega), f5 _ _ (by omega), w0 j hj, A 130 j (by omega) (by omega)]) (by rw [N0 _ _ (by omega), f5 _ _ (by omega)]; exact w1) (by rw [N0 _ _ (by omega), f5 _ _ (by omega)]; exact w2) (by rw [N0 _ _ (by omega), f5 _ _ (by omega)]; exact w3) (by rw [N0 _ _ (by omega), f5 _ _ (by omega)]; exact w5) (by rw [N0 _ _ (by omega), f5 _ _ (by omega)]; exact w6) (fun m6 hI6 => p_m rfl hI6)
    by_cases c1 : b = 131 ∧ j = 3
    · rw [z_ue c1.1 c1.2, c1.1, c1.2]; exact S5.symm
    by_cases c2 : b = 133 ∧ j = (m 1 1).toNat
    · rw [z_un c1, z_ue c2.1 c2.2, c2.1, c2.2]; exact S4.symm
    rw [z_un c1, z_un c2, f5 b j q5, f4 b j q1 q2 q3 q4]
    by_cases c3 : b = 1 ∧ j = 1
    · rw [c3.1, c3.2, A2]; exact S3.symm
    by_cases c4 : b = 2 ∧ j = (m 1 1).toNat
    · rw [c4.1, c4.2, A1]; exact S2.symm
    rw [A b j c4 c3, S0 b j q1 (by omega) c3 (by omega)]
  · refine ⟨-4, m, g, rfl, rfl, hx, rfl, n_turn hI hs h0 h1 ⟨rfl, fun _ _ _ _ => rfl⟩ r8 (fun _ => p_m rfl hI) (fun _ m5 f5 t5 => ?_)⟩
    have g133 : ∀ j, m5 133 j = m 133 j := fun j => f5 133 j (by omega)
    refine n_find (n := m 1 1) hU.1 (by rw [f5 131 3 (by omega)]; exact r3) v1.1 v1.2 (hr m5 g133) (fun i' hi' ei' hno' => absurd ((r133 i' hi').symm.trans ((g133 i').symm.trans ei')) (hno i' hi')) (fun _ _ => y_256_48 ⟨(by unfold z_ok; omega), (fun h => absurd h (by omega)), fun _ => p_m rfl ?_⟩) (fun _ h => absurd h (by omega))
    exact I_scr hI (fun b j h => f5 b j (fun h2 => h (by unfold z_scr; omega))) (i_T_of (fun b j _ _ => f5 b j (by omega)) hI.2.2.2.1.2.1) (by show _ = _; rw [f5 72 12 (by omega)]; exact hI.2.2.2.2.1)
theorem p_turned {L : Nat} {m : z_M} {g : z_g} {s : Int} (hI : I L m g) (hs : z_ok s) : z_pI (I L) 118 256 [.inl s] m g := by
  have hC := hI.2.2.2.1
  have hZ := hI.2.2.2.2.1
  have hV := hC.1
  have hR := hI.2.2.2.2.2.1
  have v3 := hV.2.2.1
  refine y_118 (c_isSumB hs hV (fun h0 h1 => y_118_3 ⟨(by unfold z_ok; omega), fun _ => ?_, (fun h => absurd h (by omega))⟩) (fun hno => y_118_3 ⟨(by unfold z_ok; omega), (fun h => absurd h (by omega)), fun _ => ⟨-1, m, g, rfl, rfl, fun _ => rfl, rfl, y_256 (n_isSum hs hR.1.2.2.1 v3 (fun h0 h1 => absurd ⟨h0, h1⟩ hno) (fun _ => y_256_3 ⟨(by unfold z_ok; omega), (fun h => absurd h (by omega)), fun _ => p_m rfl hI⟩))⟩⟩))
  refine c_lookAt hC h0 h1 fun m1 f1 hT h4 h5 => c_mirror (s_S_V hV h0 h1).1 hT fun m2 f2 v2 z2 Q' hQ => ?_
  have F : ∀ b j, ¬ (29 ≤ b ∧ b ≤ 68) → ¬ b = 130 → m2 b j = m b j := fun b j q1 q2 => by rw [f2 b j (by omega), f1 b j (by omega)]
  have hI2 : I L m2 g := I_scr hI (fun b j h => F b j (fun h2 => h (by unfold z_scr; omega)) (fun h2 => h (by unfold z_scr; omega))) (Or.inr ⟨_, t_F_sam hT.1 (by decide) f2⟩) (by show _ = _; rw [F 72 12 (by omega) (by omega)]; exact hZ)
  have eS : s_S m2 s = s_S m s := by unfold s_S; rw [F 3 _ (by omega) (by omega), F 2 _ (by omega) (by omega)]
  have ep : s_p m2 = s_p m := by unfold s_p; rw [F 1 0 (by omega) (by omega)]
  have eN : s_N m2 s = s_N m s := by
    unfold s_N
    rw [eS, ep, F 4 _ (by omega) (by omega), F 5 _ (by omega) (by omega)]
    congr 1
    funext e
    exact F _ e (by have := hV.2.2.1; omega) (by have := hV.2.2.1; omega)
  have key := p_turned_put (x := fun j => m 1001 j) (s := s) (fun j => F 1001 j (by omega) (by omega)) hI2 hs h0 (by rw [F 1 3 (by omega) (by omega)]; exact h1) (by rw [eS, eN]; exact v2) (by rw [eS]; exact z2)
  rw [eS] at key
  refine z_T.imp key (fun r S' hr => ?_)
  obtain ⟨v, m3, g3, e1, e2, rest⟩ := hr
  subst e1 e2
  exact hQ v m3 g3 ⟨v, m3, g3, rfl, rfl, rest⟩
