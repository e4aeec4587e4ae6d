/-! PAIRS: times, the pair -/
/-- the model: numbers copied -/
theorem n_timesCopy {m : z_M} {g : z_g} {Q : q_V → q_S → Prop} {W : Nat → Int} {s x a b c n : Int} (hR : t_R m 139 W) (n0 : 0 ≤ n) (n6 : n < 6) (kk : ∀ m', (∀ c j, ¬ (c = 137 ∧ 13 * n.toNat ≤ j ∧ j < 13 * n.toNat + 13) → m' c j = m c j) → (∀ e, e < 13 → m' 137 (13 * n.toNat + e) = W e) → Q (.inl n) (z_st m' g)) : z_T 258 102 [.inr (.inr 131), .inl s, .inl x, .inl a, .inl b, .inl c, q_dead, q_dead] [.inl n] (z_st m g) Q := by
  have loop : ∀ (d k : Nat) (ki : Int) (m3 : z_M), 13 - k = d → ki = (k : Int) → k ≤ 13 → (∀ c j, ¬ (c = 137 ∧ 13 * n.toNat ≤ j ∧ j < 13 * n.toNat + 13) → m3 c j = m c j) → (∀ e, e < k → m3 137 (13 * n.toNat + e) = W e) → z_T 258 105 [.inr (.inr 131), .inl s, .inl x, .inl a, .inl b, .inl c, .inl n, .inl ki] [] (z_st m3 g) Q := by
    intro d
    induction d with
    | zero =>
      intro k ki m3 hd hki hkn q1 q2
      have hk : k = 13 := by omega
      subst hk
      exact y_258_105 ⟨(by unfold z_ok2; omega), fun _ => kk m3 q1 q2, (fun h => absurd h (by omega))⟩
    | succ d ih =>
      intro k ki m3 hd hki hkn q1 q2
      refine y_258_105 ⟨(by unfold z_ok2; omega), (fun h => absurd h (by omega)), fun _ => ⟨⟨by omega, by omega⟩, ⟨by omega, by omega⟩, ih (k + 1) (ki + 1) _ (by omega) (by omega) (by omega) (fun c j h => by rw [z_un (by omega)]; exact q1 c j h) (fun e he => ?_)⟩⟩
      by_cases hek : e = k
      · rw [hek, z_ue rfl (by omega), q1 139 _ (by omega), hR _ (by omega), show ki.toNat = k by omega]
      · rw [z_un (by omega)]; exact q2 e (by omega)
  exact y_258_102 (loop 13 0 0 m rfl rfl (by omega) (fun _ _ _ => rfl) (fun e he => absurd he (by omega)))
/-- the model's way to the search for the support -/
theorem n_times {L : Nat} {m m4 : z_M} {g : z_g} {Q : q_V → q_S → Prop} {s x : Int} (hI : I L m g) (hs : z_ok s) (h0 : 0 ≤ s) (h1 : s < m 1 3) (x0 : 0 ≤ x) (x1 : x < s_p m) (z12 : s_N m s 12 = 0) (hU : x_V (y_B (s_p m) x (s_N m s) 13)) (fr : n_fr m m4) (e8 : m4 131 8 = m 1 3) (k6 : m 1 3 = 6 → ∀ m5, (∀ a j, ¬ (a = 138 ∨ a = 139) → m5 a j = m4 a j) → Q (.inl (-4)) (z_st m5 g)) (kk : m 1 3 < 6 → ∀ m5, (∀ a j, ¬ (a = 138 ∨ a = 139) → m5 a j = m4 a j) → t_R m5 139 (y_W (s_p m) x (s_N m s)) → z_C 257 [.inr (.inr 131), .inl (y_B (s_p m) x (s_N m s) 13 : Int)] (z_st m5 g) (fun v S' => z_T 258 89 [.inr (.inr 131), .inl s, .inl x, .inl 0, .inl (y_B (s_p m) x (s_N m s) 13 : Int), .inl 13, q_dead, q_dead] (q_push v []) S' Q)) : z_C 258 [.inr (.inr 131), .inl s, .inl x] (z_st m4 g) Q := by
  have hV := hI.2.2.2.1.1
  have hR := hI.2.2.2.2.2.1
  have v3 := hV.2.2.1
  have hS := I_nS hV hR h0 h1 fr
  have hP := hS.1
  have hp5 := z_pr_le hP.1
  have hN := s_N_N (s := s) hV
  have hB := y_B_lt (p := s_p m) (x := x) (N := s_N m s) (n := 13)
  refine y_258 (n_isSum hs e8 v3 (fun _ _ => y_258_3 ⟨(by unfold z_ok; omega), fun _ => n_p hP (y_258_10 (n_isIn (by unfold z_ok; omega) (by unfold z_ok; omega) (by unfold z_ok; omega) (fun _ _ => y_258_13 ⟨(by unfold z_ok; omega), fun _ => n_looks hS fun m5 f5 r5 => ?_, (fun h => absurd h (by omega))⟩) (fun h => absurd ⟨x0, by omega⟩ h))), (fun h => absurd h (by omega))⟩) (fun h => absurd ⟨h0, h1⟩ h))
  have hP5 : n_P m5 (s_p m) := n_P_fr hP ⟨f5 131 1 (by omega), fun a j _ _ => f5 a j (by omega)⟩
  refine n_timesBits (N := s_N m s) hP5 r5 hN x0 x1 (fun h => absurd z12 h) (fun _ m6 f6 r6 => n_isRight (by unfold z_ok; omega) (fun S' e hV' => y_258_77 ⟨(by unfold z_ok; omega), fun _ => ?_, (fun h => absurd h (by omega))⟩) (fun h => absurd hU (h _ rfl)))
  have F : ∀ a j, ¬ (a = 138 ∨ a = 139) → m6 a j = m4 a j := fun a j h => by rw [f6 a j (by omega), f5 a j (by omega)]
  rw [F 131 8 (by omega), e8]
  exact ⟨(by unfold z_ok2; omega), fun h => kk (by omega) m6 F r6, fun h => k6 h m6 F⟩
theorem times_end {L : Nat} {m mS m4 : z_M} {g : z_g} {Q : q_V → q_S → Prop} {s x u b : Int} {W : Nat → Int} (hIS : I L mS g) (v3 : 0 ≤ m 1 3) (h6 : m 1 3 < 6) (u0 : 0 ≤ u) (u1 : u < mS 1 1) (hW : ∀ e, e < 13 → 0 ≤ W e ∧ W e ≤ 99) (eS : mS 1 3 = m 1 3) (fS : ∀ b j, ¬ (b = 109 ∧ j = 0) → ¬ ((b = 3 ∨ b = 4 ∨ b = 5) ∧ j = (m 1 3).toNat) → ¬ (b = 7 + (m 1 3).toNat ∧ j < 13) → ¬ (b = 1 ∧ j = 3) → ¬ (b = 138 ∨ b = 139) → ¬ (b = 131 ∧ j = 41) → m4 b j = mS b j) (r139 : t_R m4 139 W) (w0 : ∀ j, j < 13 → m4 (7 + (m 1 3).toNat) j = W j) (w1 : m4 3 (m 1 3).toNat = u) (w2 : m4 4 (m 1 3).toNat = 0) (w3 : m4 5 (m 1 3).toNat = 0) (w5 : m4 1 3 = m 1 3 + 1) (w6 : m4 109 0 = 0) (kk : ∀ m6, I L m6 g → Q (.inl (m 1 3)) (z_st m6 g)) : z_T 258 89 [.inr (.inr 131), .inl s, .inl x, .inl 0, .inl b, .inl 13, q_dead, q_dead] [.inl u] (z_st m4 g) Q := by
  have vS := hIS.2.2.2.1.1.2.1
  have e8 : m4 131 8 = m 1 3 := by rw [fS 131 8 (by omega) (by omega) (by omega) (by omega) (by omega) (by omega), hIS.2.2.2.2.2.1.1.2.2.1]; exact eS
  refine y_258_89 ⟨(by unfold z_ok; omega), fun _ => n_newSum (n := m 1 3) (by rw [z_un (by omega)]; exact e8) v3 h6 fun m5 f5 a1 a2 a3 a4 a5 => ?_, (fun h => absurd h (by omega))⟩
  have f5' : ∀ b j, ¬ ((b = 134 ∨ b = 135 ∨ b = 136) ∧ j = (m 1 3).toNat) → ¬ (b = 137 ∧ 13 * (m 1 3).toNat ≤ j ∧ j < 13 * (m 1 3).toNat + 13) → ¬ (b = 131 ∧ (j = 8 ∨ j = 41)) → m5 b j = m4 b j := fun b j q1 q2 q3 => by rw [f5 b j q1 q2 (by omega), z_un (by omega)]
  refine n_timesCopy (W := W) (n := m 1 3) (fun i hi => by rw [f5' 139 i (by omega) (by omega) (by omega)]; exact r139 i hi) v3 h6 fun m6 f6 t6 => kk m6 ?_
  have G6 : ∀ b j, b < 131 → m6 b j = m4 b j := fun b j h => by rw [f6 b j (by omega), f5' b j (by omega) (by omega) (by omega)]
  have F6 : ∀ b j, ¬ z_scr b j → ¬ ((b = 3 ∨ b = 4 ∨ b = 5 ∨ b = 134 ∨ b = 135 ∨ b = 136) ∧ j = (m 1 3).toNat) → ¬ (b = 7 + (m 1 3).toNat) → ¬ (b = 137 ∧ 13 * (m 1 3).toNat ≤ j ∧ j < 13 * (m 1 3).toNat + 13) → ¬ (b = 1 ∧ j = 3) → ¬ (b = 131 ∧ (j = 8 ∨ j = 41)) → ¬ (b = 109 ∧ j = 0) → m6 b j = mS b j := fun b j q0 q1 q2 q3 q4 q5 q6 => by
    have h138 : ¬ (b = 138 ∨ b = 139) := fun h => q0 (by unfold z_scr; omega)
    rw [f6 b j q3, f5' b j (by omega) q3 q5, fS b j q6 (by omega) (by omega) q4 h138 (by omega)]
  have iT : i_T m6 := i_T_of (fun b j _ _ => by rw [G6 b j (by omega), fS b j (by omega) (by omega) (by omega) (by omega) (by omega) (by omega)]) hIS.2.2.2.1.2.1
  have iZ : i_Z m6 := by
    show _ = _
    rw [G6 72 12 (by omega), fS 72 12 (by omega) (by omega) (by omega) (by omega) (by omega) (by omega)]
    exact hIS.2.2.2.2.1
  refine I_newSum (n := m 1 3) (a := u) (b := 0) (c := 0) (T := W) hIS eS h6 ⟨u0, u1⟩ (by decide) (by decide) (fun e he => hW e (by omega)) F6 iT iZ ⟨?_, ?_⟩ ⟨?_, ?_⟩ ⟨?_, ?_⟩ (fun e he => ⟨?_, t6 e he⟩) ⟨?_, ?_⟩ ⟨?_, ?_⟩
  · rw [G6 3 _ (by omega)]; exact w1
  · rw [f6 134 _ (by omega)]; exact a1
  · rw [G6 4 _ (by omega)]; exact w2
  · rw [f6 135 _ (by omega)]; exact a2
  · rw [G6 5 _ (by omega)]; exact w3
  · rw [f6 136 _ (by omega)]; exact a3
  · rw [G6 _ _ (by omega)]; exact w0 e he
  · rw [G6 1 3 (by omega)]; exact w5
  · rw [f6 131 8 (by omega)]; exact a5
  · rw [G6 109 0 (by omega)]; exact w6
  · rw [f6 131 41 (by omega), f5 131 41 (by omega) (by omega) (by omega), z_ue rfl rfl]
/-- from the class's mirrored numbers on -/
theorem p_times_put {L : Nat} {m : z_M} {g : z_g} {s a : Int} {x : Nat → Int} (hx : ∀ j, m 1001 j = x j) (hI : I L m g) (hs : z_ok s) (h0 : 0 ≤ s) (h1 : s < m 1 3) (a0 : 0 ≤ a) (a1 : a < s_p m) (z12 : s_N m s 12 = 0) (hU : x_V (y_B (s_p m) a (s_N m s) 13)) (v130 : ∀ e, e < 13 → m 130 e = y_W (s_p m) a (s_N m s) e) : z_C 119 [.inr (.inr 0), .inl (y_B (s_p m) a (s_N m s) 13 : Int)] (z_st m g) (fun r S' => ∃ v m1 g1, r = .inl v ∧ S' = z_st m1 g1 ∧ (∀ j, m1 1001 j = x j) ∧ g1.1 = g.1 ∧ z_C 258 [.inr (.inr 131), .inl s, .inl a] (z_st m1 g1) (fun r' S'' => ∃ v' m2 g2, r' = .inl v' ∧ S'' = z_st m2 g2 ∧ q_w v = q_w v' ∧ I L m2 g2)) := by
  have hV := hI.2.2.2.1.1
  have hR := hI.2.2.2.2.2.1
  have v1 := hV.2.1
  have v3 := hV.2.2.1
  have hSV := (s_S_V hV h0 h1).1
  have hp5 := z_pr_le (s_p_pr hV)
  have hW : ∀ e, e < 13 → 0 ≤ y_W (s_p m) a (s_N m s) e ∧ y_W (s_p m) a (s_N m s) e ≤ 99 := fun e _ => by
    have := y_W_rng (x := a) (N := s_N m s) (e := e) (s_p_pr hV)
    omega
  have r3 : m 131 3 = m 1 1 := hR.1.2.1
  have r8 : m 131 8 = m 1 3 := hR.1.2.2.1
  have r133 : ∀ i : Nat, (i : Int) < m 1 1 → m 133 i = m 2 i := fun i hi => (hR.2.1 i (by omega)).1
  have hr : ∀ (m5 : z_M), (∀ j, m5 133 j = m 133 j) → ∀ i : Nat, (i : Int) < m 1 1 → 0 ≤ m5 133 i ∧ m5 133 i < 8192 := fun m5 h i hi => by
    obtain ⟨S', e, hx⟩ := hV.2.2.2.2.1 i hi
    rw [h i, r133 i hi, e]
    have := hx.1
    omega
  refine y_119 (c_find hU.1 hV (fun i hi ei hno => y_119_4 ⟨(by unfold z_ok2; omega), fun h6 => ?_, fun h6 => ⟨(by unfold z_ok; omega), fun _ => ⟨(by unfold z_ok; omega), fun _ => ?_, (fun h => absurd h (by omega))⟩, (fun h => absurd h (by omega))⟩⟩) (fun hno => y_119_4 ⟨(by unfold z_ok2; omega), fun h6 => ?_, fun h6 => ⟨(by unfold z_ok; omega), (fun h => absurd h (by omega)), fun _ => ⟨(by unfold z_ok2; omega), fun h7 => ⟨(by unfold z_ok; omega), (fun h => absurd h (by omega)), fun _ => ?_⟩, fun h7 => ?_⟩⟩⟩))
  · exact ⟨-4, m, g, rfl, rfl, hx, rfl, n_times hI hs h0 h1 a0 a1 z12 hU ⟨rfl, fun _ _ _ _ => rfl⟩ r8 (fun _ m5 f5 => p_m rfl (I_q hI (c_Q_refl hI.2.2.2.1.2.1 hI.2.2.2.2.1) (fun b j h => f5 b j (fun h2 => h (by omega))))) (fun h => absurd h (by omega))⟩
  · refine c_putSum (n := m 1 3) rfl v3.1 h6 fun m4 f4 w0 w1 w2 w3 w5 w6 => y_119_29 ⟨m 1 3, m4, g, rfl, rfl, fun j => by rw [f4 1001 j (by omega) (by omega) (by omega) (by omega)]; exact hx j, rfl, ?_⟩
    refine n_times hI hs h0 h1 a0 a1 z12 hU ⟨f4 131 1 (by omega) (by omega) (by omega) (by omega), fun b j _ _ => f4 b j (by omega) (by omega) (by omega) (by omega)⟩ (by rw [f4 131 8 (by omega) (by omega) (by omega) (by omega)]; exact r8) (fun h => absurd h (by omega)) (fun _ m5 f5 t5 => ?_)
    have g133 : ∀ j, m5 133 j = m 133 j := fun j => by rw [f5 133 j (by omega), f4 133 j (by omega) (by omega) (by omega) (by omega)]
    refine n_find (n := m 1 1) hU.1 (by rw [f5 131 3 (by omega), f4 131 3 (by omega) (by omega) (by omega) (by omega)]; exact r3) v1.1 v1.2 (hr m5 g133) (fun i' hi' ei' hno' => ?_) (fun h => absurd ((g133 i).trans ((r133 i hi).trans ei)) (h i hi)) (fun h => absurd ((g133 i).trans ((r133 i hi).trans ei)) (h i hi))
    have hii : i' = i := by
      rcases Nat.lt_trichotomy i' i with h | h | h
      · exact absurd ((r133 i' hi').symm.trans ((g133 i').symm.trans ei')) (hno i' h)
      · exact h
      · exact absurd ((g133 i).trans ((r133 i hi).trans ei)) (hno' i h)
    subst hii
    exact times_end (m := m) (mS := m) hI v3.1 h6 (by omega) hi hW rfl (fun b j q1 q2 q3 q4 q5 q6 => by rw [f5 b j q5, f4 b j q1 q2 q3 q4]) t5 (fun j hj => by rw [f5 _ _ (by omega)]; exact (w0 j hj).trans (v130 j hj)) (by rw [f5 _ _ (by omega)]; exact w1) (by rw [f5 _ _ (by omega)]; exact w2) (by rw [f5 _ _ (by omega)]; exact w3) (by rw [f5 _ _ (by omega)]; exact w5) (by rw [f5 _ _ (by omega)]; exact w6) (fun m6 hI6 => p_m rfl hI6)
  · exact ⟨-4, m, g, rfl, rfl, hx, rfl, n_times hI hs h0 h1 a0 a1 z12 hU ⟨rfl, fun _ _ _ _ => rfl⟩ r8 (fun _ m5 f5 => p_m rfl (I_q hI (c_Q_refl hI.2.2.2.1.2.1 hI.2.2.2.2.1) (fun b j h => f5 b j (fun h2 => h (by omega))))) (fun h => absurd h (by omega))⟩
  · refine c_addSupport v1.1 h7 (y_119_26 ?_)
    have A : ∀ b j, ¬ (b = 2 ∧ j = (m 1 1).toNat) → ¬ (b = 1 ∧ j = 1) → (q_upd (q_upd m 2 (m 1 1).toNat (y_B (s_p m) a (s_N m s) 13 : Int)) 1 1 (m 1 1 + 1)) b j = m b j := fun b j q1 q2 => by rw [z_un q2, z_un q1]
    have A1 : (q_upd (q_upd m 2 (m 1 1).toNat (y_B (s_p m) a (s_N m s) 13 : Int)) 1 1 (m 1 1 + 1)) 2 (m 1 1).toNat = y_B (s_p m) a (s_N m s) 13 := by rw [z_un (by omega), z_ue rfl rfl]
    have A2 : (q_upd (q_upd m 2 (m 1 1).toNat (y_B (s_p m) a (s_N m s) 13 : Int)) 1 1 (m 1 1 + 1)) 1 1 = m 1 1 + 1 := z_ue rfl rfl
    generalize (q_upd (q_upd m 2 (m 1 1).toNat (y_B (s_p m) a (s_N m s) 13 : Int)) 1 1 (m 1 1 + 1)) = mA at A A1 A2
    refine c_putSum (n := m 1 3) (A 1 3 (by omega) (by omega)) v3.1 h6 fun m4 f4 w0 w1 w2 w3 w5 w6 => y_119_29 ⟨m 1 3, m4, g, rfl, rfl, fun j => by rw [f4 1001 j (by omega) (by omega) (by omega) (by omega), A 1001 j (by omega) (by omega)]; exact hx j, rfl, ?_⟩
    have f4' : ∀ b j, 131 ≤ b → m4 b j = m b j := fun b j h => by rw [f4 b j (by omega) (by omega) (by omega) (by omega), A b j (by omega) (by omega)]
    refine n_times hI hs h0 h1 a0 a1 z12 hU ⟨f4' 131 1 (by omega), fun b j _ _ => f4' b j (by omega)⟩ (by rw [f4' 131 8 (by omega)]; exact r8) (fun h => absurd h (by omega)) (fun _ m5 f5 t5 => ?_)
    have g133 : ∀ j, m5 133 j = m 133 j := fun j => by rw [f5 133 j (by omega), f4' 133 j (by omega)]
    refine n_find (n := m 1 1) hU.1 (by rw [f5 131 3 (by omega), f4' 131 3 (by omega)]; exact r3) v1.1 v1.2 (hr m5 g133) (fun i' hi' ei' hno' => absurd ((r133 i' hi').symm.trans ((g133 i').symm.trans ei')) (hno i' hi')) (fun _ h => absurd h (by omega)) (fun _ _ => ?_)
    have S0 : ∀ b j, ¬ (b = 109 ∧ j = 0) → ¬ ((b = 2 ∨ b = 133) ∧ j = (m 1 1).toNat) → ¬ (b = 1 ∧ j = 1) → ¬ (b = 131 ∧ (j = 3 ∨ j = 41)) → (q_upd (q_upd (q_upd (q_upd (q_upd (q_upd m 109 0 0) 131 41 0) 2 (m 1 1).toNat (y_B (s_p m) a (s_N m s) 13 : Int)) 1 1 (m 1 1 + 1)) 133 (m 1 1).toNat (y_B (s_p m) a (s_N m s) 13 : Int)) 131 3 (m 1 1 + 1)) b j = m b j := fun b j q1 q2 q3 q4 => by rw [z_un (by omega), z_un (by omega), z_un (by omega), z_un (by omega), z_un (by omega), z_un (by omega)]
    have S1 : (q_upd (q_upd (q_upd (q_upd (q_upd (q_upd m 109 0 0) 131 41 0) 2 (m 1 1).toNat (y_B (s_p m) a (s_N m s) 13 : Int)) 1 1 (m 1 1 + 1)) 133 (m 1 1).toNat (y_B (s_p m) a (s_N m s) 13 : Int)) 131 3 (m 1 1 + 1)) 109 0 = 0 := by rw [z_un (by omega), z_un (by omega), z_un (by omega), z_un (by omega), z_un (by omega), z_ue rfl rfl]
    have S2 : (q_upd (q_upd (q_upd (q_upd (q_upd (q_upd m 109 0 0) 131 41 0) 2 (m 1 1).toNat (y_B (s_p m) a (s_N m s) 13 : Int)) 1 1 (m 1 1 + 1)) 133 (m 1 1).toNat (y_B (s_p m) a (s_N m s) 13 : Int)) 131 3 (m 1 1 + 1)) 2 (m 1 1).toNat = y_B (s_p m) a (s_N m s) 13 := by rw [z_un (by omega), z_un (by omega), z_un (by omega), z_ue rfl rfl]
    have S3 : (q_upd (q_upd (q_upd (q_upd (q_upd (q_upd m 109 0 0) 131 41 0) 2 (m 1 1).toNat (y_B (s_p m) a (s_N m s) 13 : Int)) 1 1 (m 1 1 + 1)) 133 (m 1 1).toNat (y_B (s_p m) a (s_N m s) 13 : Int)) 131 3 (m 1 1 + 1)) 1 1 = m 1 1 + 1 := by rw [z_un (by omega), z_un (by omega), z_ue rfl rfl]
    have S4 : (q_upd (q_upd (q_upd (q_upd (q_upd (q_upd m 109 0 0) 131 41 0) 2 (m 1 1).toNat (y_B (s_p m) a (s_N m s) 13 : Int)) 1 1 (m 1 1 + 1)) 133 (m 1 1).toNat (y_B (s_p m) a (s_N m s) 13 : Int)) 131 3 (m 1 1 + 1)) 133 (m 1 1).toNat = y_B (s_p m) a (s_N m s) 13 := by rw [z_un (by omega), z_ue rfl rfl]
    have S5 : (q_upd (q_upd (q_upd (q_upd (q_upd (q_upd m 109 0 0) 131 41 0) 2 (m 1 1).toNat (y_B (s_p m) a (s_N m s) 13 : Int)) 1 1 (m 1 1 + 1)) 133 (m 1 1).toNat (y_B (s_p m) a (s_N m s) 13 : Int)) 131 3 (m 1 1 + 1)) 131 3 = m 1 1 + 1 := z_ue rfl rfl
    have S6 : (q_upd (q_upd (q_upd (q_upd (q_upd (q_upd m 109 0 0) 131 41 0) 2 (m 1 1).toNat (y_B (s_p m) a (s_N m s) 13 : Int)) 1 1 (m 1 1 + 1)) 133 (m 1 1).toNat (y_B (s_p m) a (s_N m s) 13 : Int)) 131 3 (m 1 1 + 1)) 131 41 = 0 := by rw [z_un (by omega), z_un (by omega), z_un (by omega), z_un (by omega), z_ue rfl rfl]
    generalize (q_upd (q_upd (q_upd (q_upd (q_upd (q_upd m 109 0 0) 131 41 0) 2 (m 1 1).toNat (y_B (s_p m) a (s_N m s) 13 : Int)) 1 1 (m 1 1 + 1)) 133 (m 1 1).toNat (y_B (s_p m) a (s_N m s) 13 : Int)) 131 3 (m 1 1 + 1)) = mS at S0 S1 S2 S3 S4 S5 S6
    have hIS : I L mS g := I_newSupport hI h7 hU S0 S1 S2 S3 S4 S5 S6
    have N0 : ∀ b j, b < 131 → (q_upd (q_upd m5 133 (m 1 1).toNat (y_B (s_p m) a (s_N m s) 13 : Int)) 131 3 (m 1 1 + 1)) b j = m5 b j := fun b j h => by rw [z_un (by omega), z_un (by omega)]
    refine times_end (m := m) (mS := mS) hIS v3.1 h6 v1.1 (by omega) hW (S0 1 3 (by omega) (by omega) (by omega) (by omega)) (fun b j q1 q2 q3 q4 q5 q6 => ?_) (fun i hi => by rw [z_un (by omega), z_un (by omega)]; exact t5 i hi) (fun j hj => by rw [N0 _ _ (by omega), f5 _ _ (by omega), w0 j hj, A 130 j (by omega) (by omega), v130 j hj]) (by rw [N0 _ _ (by omega), f5 _ _ (by omega)]; exact w1) (by rw [N0 _ _ (by omega), f5 _ _ (by omega)]; exact w2) (by rw [N0 _ _ (by omega), f5 _ _ (by omega)]; exact w3) (by rw [N0 _ _ (by omega), f5 _ _ (by omega)]; exact w5) (by rw [N0 _ _ (by omega), f5 _ _ (by omega)]; exact w6) (fun m6 hI6 => p_m rfl hI6)
    by_cases c1 : b = 131 ∧ j = 3
    · rw [z_ue c1.1 c1.2, c1.1, c1.2]; exact S5.symm
    by_cases c2 : b = 133 ∧ j = (m 1 1).toNat
    · rw [z_un c1, z_ue c2.1 c2.2, c2.1, c2.2]; exact S4.symm
    rw [z_un c1, z_un c2, f5 b j q5, f4 b j q1 q2 q3 q4]
    by_cases c3 : b = 1 ∧ j = 1
    · rw [c3.1, c3.2, A2]; exact S3.symm
    by_cases c4 : b = 2 ∧ j = (m 1 1).toNat
    · rw [c4.1, c4.2, A1]; exact S2.symm
    rw [A b j c4 c3, S0 b j q1 (by omega) c3 (by omega)]
  · refine ⟨-4, m, g, rfl, rfl, hx, rfl, n_times hI hs h0 h1 a0 a1 z12 hU ⟨rfl, fun _ _ _ _ => rfl⟩ r8 (fun _ m5 f5 => p_m rfl (I_q hI (c_Q_refl hI.2.2.2.1.2.1 hI.2.2.2.2.1) (fun b j h => f5 b j (fun h2 => h (by omega))))) (fun _ m5 f5 t5 => ?_)⟩
    have g133 : ∀ j, m5 133 j = m 133 j := fun j => f5 133 j (by omega)
    refine n_find (n := m 1 1) hU.1 (by rw [f5 131 3 (by omega)]; exact r3) v1.1 v1.2 (hr m5 g133) (fun i' hi' ei' hno' => absurd ((r133 i' hi').symm.trans ((g133 i').symm.trans ei')) (hno i' hi')) (fun _ _ => y_258_89 ⟨(by unfold z_ok; omega), (fun h => absurd h (by omega)), fun _ => p_m rfl ?_⟩) (fun _ h => absurd h (by omega))
    exact I_scr hI (fun b j h => f5 b j (fun h2 => h (by unfold z_scr; omega))) (i_T_of (fun b j _ _ => f5 b j (by omega)) hI.2.2.2.1.2.1) (by show _ = _; rw [f5 72 12 (by omega)]; exact hI.2.2.2.2.1)
theorem p_times {L : Nat} {m : z_M} {g : z_g} {s x : Int} (hI : I L m g) (hs : z_ok s) (hx : z_ok x) : z_pI (I L) 121 258 [.inl s, .inl x] m g := by
  have hC := hI.2.2.2.1
  have hZ := hI.2.2.2.2.1
  have hV := hC.1
  have hR := hI.2.2.2.2.2.1
  have v3 := hV.2.2.1
  have hp := s_p_pr hV
  have hp5 := z_pr_le hp
  have r8 : m 131 8 = m 1 3 := hR.1.2.2.1
  have q0 := c_Q_refl hC.2.1 hZ
  have hN := s_N_N (s := s) hV
  have mbad : 0 ≤ s → s < m 1 3 → ¬ (0 ≤ x ∧ x < s_p m) → ∀ Q : q_V → q_S → Prop, Q (.inl (-2)) (z_st m g) → z_C 258 [.inr (.inr 131), .inl s, .inl x] (z_st m g) Q := fun h0 h1 hno Q k =>
    y_258 (n_isSum hs r8 v3 (fun _ _ => y_258_3 ⟨(by unfold z_ok; omega), fun _ => n_p (I_nP hV hR n_fr_refl) (y_258_10 (n_isIn hx (by unfold z_ok; omega) (by unfold z_ok; omega) (fun h2 h3 => absurd ⟨h2, by omega⟩ hno) (fun _ => y_258_13 ⟨(by unfold z_ok; omega), (fun h => absurd h (by omega)), fun _ => k⟩))), (fun h => absurd h (by omega))⟩) (fun h => absurd ⟨h0, h1⟩ h))
  refine y_121 (c_isSumB hs hV (fun h0 h1 => y_121_3 ⟨(by unfold z_ok; omega), fun _ => ⟨hx, fun hb => ⟨-2, m, g, rfl, rfl, fun _ => rfl, rfl, mbad h0 h1 (by omega) _ (p_m rfl hI)⟩, fun x0 => c_modulus' hC (y_121_12 ⟨by unfold z_ok at hx; unfold z_ok2; omega, fun x1 => ?_, fun hb => ⟨-2, m, g, rfl, rfl, fun _ => rfl, rfl, mbad h0 h1 (by omega) _ (p_m rfl hI)⟩⟩)⟩, (fun h => absurd h (by omega))⟩) (fun hno => y_121_3 ⟨(by unfold z_ok; omega), (fun h => absurd h (by omega)), fun _ => ⟨-1, m, g, rfl, rfl, fun _ => rfl, rfl, y_258 (n_isSum hs r8 v3 (fun h0 h1 => absurd ⟨h0, h1⟩ hno) (fun _ => y_258_3 ⟨(by unfold z_ok; omega), (fun h => absurd h (by omega)), fun _ => p_m rfl hI⟩))⟩⟩))
  have hSV := (s_S_V hV h0 h1).1
  refine c_lookAt hC h0 h1 fun m1 f1 hT h4 h5 => y_121_18 (c_makeTimes hSV hT hN x0 x1 fun m2 f2 v2 => y_121_21 (c_freshBits hp v2 (y_121_23 ?_)))
  have hB := y_B_lt (p := s_p m) (x := x) (N := s_N m s) (n := 14)
  refine c_bitCount rfl (by omega) (y_121_26 ?_)
  have hb14 := r_bc_rng (n := y_B (s_p m) x (s_N m s) 14)
  refine c_isMany (by unfold z_ok; omega) (y_121_27 ?_)
  have F : ∀ b j, ¬ (29 ≤ b ∧ b ≤ 68) → ¬ b = 130 → m2 b j = m b j := fun b j q1 q2 => by rw [f2 b j (by omega), f1 b j (by omega)]
  have hI2 : I L m2 g := I_scr hI (fun b j h => F b j (fun h2 => h (by unfold z_scr; omega)) (fun h2 => h (by unfold z_scr; omega))) (Or.inr ⟨_, t_F_sam hT.1 (by decide) f2⟩) (by show _ = _; rw [F 72 12 (by omega) (by omega)]; exact hZ)
  have eS : s_S m2 s = s_S m s := by unfold s_S; rw [F 3 _ (by omega) (by omega), F 2 _ (by omega) (by omega)]
  have ep : s_p m2 = s_p m := by unfold s_p; rw [F 1 0 (by omega) (by omega)]
  have eN : s_N m2 s = s_N m s := by
    unfold s_N
    rw [eS, ep, F 4 _ (by omega) (by omega), F 5 _ (by omega) (by omega)]
    congr 1
    funext e
    exact F _ e (by have := hV.2.2.1; omega) (by have := hV.2.2.1; omega)
  have e13 : y_W (s_p m) x (s_N m s) 13 = s_N m s 12 := by
    unfold y_W
    rw [if_neg (by decide), hN.2 13 (Or.inl (by decide)), Int.mul_zero, Int.sub_zero]
    exact z_mi (hN.1 12).1 (hN.1 12).2
  have bB : y_B (s_p m) x (s_N m s) 14 = if y_W (s_p m) x (s_N m s) 13 = 0 then y_B (s_p m) x (s_N m s) 13 else y_B (s_p m) x (s_N m s) 13 + 2 ^ 13 := y_B_s (n := 13)
  rw [e13] at bB
  have hB13 := y_B_lt (p := s_p m) (x := x) (N := s_N m s) (n := 13)
  have esh : q_bin 7 (y_B (s_p m) x (s_N m s) 14 : Int) 13 = ((y_B (s_p m) x (s_N m s) 14 / 8192 : Nat) : Int) := by
    have e13 : q_bin 7 (y_B (s_p m) x (s_N m s) 14 : Int) 13 = ((y_B (s_p m) x (s_N m s) 14 >>> 13 : Nat) : Int) := q_b_shr (e := 13) (by omega) (by decide)
    rw [Nat.shiftRight_eq_div_pow] at e13
    exact e13
  rw [esh]
  -- the model where nothing comes
  have hS2 : n_S m2 s (s_p m) (s_S m s) (m 4 s.toNat) (m 5 s.toNat) (fun e => m (7 + s.toNat) e) := I_nS hV hR h0 h1 ⟨F 131 1 (by omega) (by omega), fun a j _ _ => F a j (by omega) (by omega)⟩
  have mst : (¬ s_N m s 12 = 0 ∨ ¬ x_V (y_B (s_p m) x (s_N m s) 13)) → ∃ v m1 g1, (.inl (-3) : q_V) = .inl v ∧ z_st m2 g = z_st m1 g1 ∧ (∀ j, m1 1001 j = m 1001 j) ∧ g1.1 = g.1 ∧ z_C 258 [.inr (.inr 131), .inl s, .inl x] (z_st m1 g1) (fun r' S'' => ∃ v' m2 g2, r' = .inl v' ∧ S'' = z_st m2 g2 ∧ q_w v = q_w v' ∧ I L m2 g2) := by
    intro hno
    refine ⟨-3, m2, g, rfl, rfl, fun j => F 1001 j (by omega) (by omega), rfl, y_258 (n_isSum hs (by rw [F 131 8 (by omega) (by omega)]; exact r8) v3 (fun _ _ => y_258_3 ⟨(by unfold z_ok; omega), fun _ => n_p hS2.1 (y_258_10 (n_isIn hx (by unfold z_ok; omega) (by unfold z_ok; omega) (fun _ _ => y_258_13 ⟨(by unfold z_ok; omega), fun _ => n_looks hS2 fun m5 f5 r5 => ?_, (fun h => absurd h (by omega))⟩) (fun h => absurd ⟨x0, by omega⟩ h))), (fun h => absurd h (by omega))⟩) (fun h => absurd ⟨h0, h1⟩ h))⟩
    have fin : ∀ m6 : z_M, (∀ a j, ¬ (a = 138 ∨ a = 139) → m6 a j = m2 a j) → I L m6 g := fun m6 f6 => I_scr hI2 (fun b j h => f6 b j (fun h2 => h (by unfold z_scr; omega))) (i_T_of (fun b j _ _ => f6 b j (by omega)) hI2.2.2.2.1.2.1) (by show _ = _; rw [f6 72 12 (by omega)]; exact hI2.2.2.2.2.1)
    refine n_timesBits (N := s_N m s) (n_P_fr hS2.1 ⟨f5 131 1 (by omega), fun a j _ _ => f5 a j (by omega)⟩) r5 hN x0 x1 (fun _ m6 f6 => p_m rfl (fin m6 fun a j h => by rw [f6 a j (by omega), f5 a j (by omega)])) (fun h12 m6 f6 r6 => n_isRight (by unfold z_ok; omega) (fun S' e hV' => ?_) (fun _ => y_258_77 ⟨(by unfold z_ok; omega), (fun h => absurd h (by omega)), fun _ => p_m rfl (fin m6 fun a j h => by rw [f6 a j (by omega), f5 a j (by omega)])⟩))
    have e' : S' = y_B (s_p m) x (s_N m s) 13 := by omega
    subst e'
    rcases hno with h | h
    · exact absurd h12 h
    · exact absurd hV' h
  by_cases h12 : s_N m s 12 = 0
  · rw [if_pos h12] at bB
    rw [bB, r_bc_many (by omega)]
    have hd : y_B (s_p m) x (s_N m s) 13 / 8192 = 0 := Nat.div_eq_of_lt hB13
    by_cases hm : 2 ≤ (x_many (y_B (s_p m) x (s_N m s) 13) : Int) ∧ (x_many (y_B (s_p m) x (s_N m s) 13) : Int) ≤ 6
    · rw [if_pos hm]
      have hU : x_V (y_B (s_p m) x (s_N m s) 13) := ⟨by omega, by omega, by omega⟩
      refine ⟨(by unfold z_ok; omega), (fun h => absurd h (by omega)), fun _ => ⟨(by unfold z_ok; omega), fun _ => ?_, fun h => absurd (by omega) h⟩⟩
      have key := p_times_put (x := fun j => m 1001 j) (s := s) (a := x) (fun j => F 1001 j (by omega) (by omega)) hI2 hs h0 (by rw [F 1 3 (by omega) (by omega)]; exact h1) x0 (by rw [ep]; exact x1) (by rw [eN]; exact h12) (by rw [eN, ep]; exact hU) (by rw [eN, ep]; exact fun e he => v2 e (by omega))
      rw [eN, ep] at key
      refine z_T.imp key (fun r S' hr => ?_)
      obtain ⟨v, m3, g3, e1, e2, rest⟩ := hr
      subst e1 e2
      exact y_121_37 ⟨v, m3, g3, rfl, rfl, rest⟩
    · rw [if_neg hm]
      exact ⟨(by unfold z_ok; omega), fun _ => mst (Or.inr fun hv => hm ⟨by have := hv.2.1; omega, by have := hv.2.2; omega⟩), (fun h => absurd h (by omega))⟩
  · rw [if_neg h12] at bB
    have hd : 1 ≤ y_B (s_p m) x (s_N m s) 14 / 8192 := by omega
    by_cases hm : 2 ≤ r_bc (y_B (s_p m) x (s_N m s) 14) ∧ r_bc (y_B (s_p m) x (s_N m s) 14) ≤ 6
    · rw [if_pos hm]
      exact ⟨(by unfold z_ok; omega), (fun h => absurd h (by omega)), fun _ => ⟨(by unfold z_ok; omega), fun h => absurd h (by omega), fun _ => mst (Or.inl h12)⟩⟩
    · rw [if_neg hm]
      exact ⟨(by unfold z_ok; omega), fun _ => mst (Or.inl h12), (fun h => absurd h (by omega))⟩
