/-! PAIRS: prime, number, turn -/
def z_sts (a j : Nat) : Prop := (109 ≤ a ∧ a ≤ 113) ∨ (158 ≤ a ∧ a ≤ 160) ∨ (a = 131 ∧ j = 41)
theorem i_stp_sh {m m' : z_M} {i i' : Nat} (e : m' 110 i = m 110 i' ∧ m' 111 i = m 111 i' ∧ m' 112 i = m 112 i' ∧ m' 113 i = m 113 i') (e2 : m' 158 i = m 158 i' ∧ m' 159 i = m 159 i' ∧ m' 160 i = m 160 i') (f : ∀ a j, (a = 1 ∧ j = 3) ∨ a = 2 ∨ a = 3 → m' a j = m a j) (h : i_stp m i') : i_stp m' i := by
  have eS : ∀ s, s_S m' s = s_S m s := fun s => by unfold s_S; rw [f 3 _ (by omega), f 2 _ (by omega)]
  unfold i_stp at h ⊢
  rw [e.1, e.2.1, e.2.2.1, e.2.2.2, e2.1, e2.2.1, e2.2.2, f 1 3 (by omega), eS]
  exact h
theorem i_St_push {m m1 m2 m3 m4 : z_M} {k a b c x y z : Int} (h : i_St m) (hp : p_push m m1 k a b c) (hn : p_notes m2 m3 x y z) (f12 : ∀ a j, z_sts a j → m2 a j = m1 a j) (f34 : ∀ a j, z_sts a j → m4 a j = m3 a j) (f : ∀ a j, (a = 1 ∧ j = 3) ∨ a = 2 ∨ a = 3 → m4 a j = m a j) (new : ∀ n : Nat, m4 110 n = k → m4 111 n = a → m4 112 n = b → m4 113 n = c → m4 158 n = x → m4 159 n = y → m4 160 n = z → i_stp m4 n) : i_St m4 := by
  obtain ⟨h0, h8, h41, hs⟩ := h
  obtain ⟨n, s, hn1, e1, e2, e3, e4⟩ := hp
  obtain ⟨n', s', hn1', e1', e2', e3', e4'⟩ := hn
  unfold z_sts at f12 f34
  have q41 : m2 131 41 = m 109 0 := by rw [f12 131 41 (by omega), e4 131 41 (by omega), h41]
  rw [q41] at hn1'
  have hnn : n' = n := by omega
  have hss : s' = s := by omega
  subst hnn hss
  refine ⟨?_, ?_, ?_, fun i hi => ?_⟩
  · rw [f34 109 0 (by omega), e4' 109 0 (by omega), f12 109 0 (by omega), e1]; omega
  · rw [f34 109 0 (by omega), e4' 109 0 (by omega), f12 109 0 (by omega), e1]; omega
  · rw [f34 131 41 (by omega), e1', f34 109 0 (by omega), e4' 109 0 (by omega), f12 109 0 (by omega), e1]
  · rw [f34 109 0 (by omega), e4' 109 0 (by omega), f12 109 0 (by omega), e1] at hi
    have ea : ∀ q, 110 ≤ q → q ≤ 113 → m4 q i = m1 q i := fun q _ _ => by rw [f34 q i (by omega), e4' q i (by omega), f12 q i (by omega)]
    have eb : ∀ q, 158 ≤ q → q ≤ 160 → m4 q i = m3 q i := fun q _ _ => f34 q i (by omega)
    by_cases hin : i = n'
    · subst hin
      refine new i ?_ ?_ ?_ ?_ ?_ ?_ ?_
      · rw [ea 110 (by omega) (by omega)]; exact e2.1
      · rw [ea 111 (by omega) (by omega)]; exact e2.2.1
      · rw [ea 112 (by omega) (by omega)]; exact e2.2.2.1
      · rw [ea 113 (by omega) (by omega)]; exact e2.2.2.2
      · rw [eb 158 (by omega) (by omega)]; exact e2'.1
      · rw [eb 159 (by omega) (by omega)]; exact e2'.2.1
      · rw [eb 160 (by omega) (by omega)]; exact e2'.2.2
    · have hlt : i < n' := by omega
      obtain ⟨g1, g2, g3, g4⟩ := e3 i hlt
      obtain ⟨g5, g6, g7⟩ := e3' i hlt
      refine i_stp_sh (i' := i + s') ⟨?_, ?_, ?_, ?_⟩ ⟨?_, ?_, ?_⟩ f (hs (i + s') (by omega))
      · rw [ea 110 (by omega) (by omega)]; exact g1
      · rw [ea 111 (by omega) (by omega)]; exact g2
      · rw [ea 112 (by omega) (by omega)]; exact g3
      · rw [ea 113 (by omega) (by omega)]; exact g4
      · rw [eb 158 (by omega) (by omega), g5, f12 158 _ (by omega), e4 158 _ (by omega)]
      · rw [eb 159 (by omega) (by omega), g6, f12 159 _ (by omega), e4 159 _ (by omega)]
      · rw [eb 160 (by omega) (by omega), g7, f12 160 _ (by omega), e4 160 _ (by omega)]
/-- cells of the sums and the steps -/
def z_chg (a j : Nat) : Prop := z_scr a j ∨ (1 ≤ a ∧ a ≤ 14) ∨ (a = 131 ∧ (j = 1 ∨ j = 3 ∨ j = 8 ∨ j = 28)) ∨ (133 ≤ a ∧ a ≤ 137) ∨ a = 151 ∨ a = 152 ∨ z_sts a j
theorem I_gen {L : Nat} {m m' : z_M} {g : z_g} (h : I L m g) (f : ∀ a j, ¬ z_chg a j → m' a j = m a j) (hV : i_V m') (hT : i_T m') (hZ : i_Z m') (hR : i_R m') (hSt : i_St m') : I L m' g := by
  unfold z_chg z_scr z_sts at f
  obtain ⟨h1, h2, h3, ⟨h4, -, h5⟩, -, h6, h7, h8, h9, h10, h11, h12⟩ := h
  have hvp := i_vp h1
  exact ⟨h1, i_Sc_of (fun j => f 1001 j (by omega)) h2, i_D_of (fun a j _ _ => f a j (by omega)) h3, ⟨hV, hT, i_P_of (fun j => f 1002 j (by omega)) h5⟩, hZ, hR, i_K_of (fun a j _ => f a j (by omega)) h7, hSt, i_L_of (fun a j _ => f a j (by omega)) h9, i_X_of (fun a j _ => f a j (by omega)) h10, i_W_of (fun a j _ => f a j (by omega)) h11, i_F_of (fun a j _ => f a j (by omega)) h12⟩
theorem p_prime {L : Nat} {m : z_M} {g : z_g} {k : Int} (hI : I L m g) (hk : z_ok k) : z_pI (I L) 15 187 [.inl k] m g := by
  have hh := hI
  obtain ⟨hg, hSc, hD, ⟨hV, hT, hP⟩, hZ, hR, hK, hSt, hL, hX, hW, hF⟩ := hh
  have h41 := hSt.2.2.1
  refine c_prime hk.1 hk.2 hSt.1 hSt.2.1 (fun ho => ⟨-1, m, g, rfl, rfl, fun _ => rfl, rfl, n_prime hk.1 hk.2 (by rw [h41]; exact hSt.1) (by rw [h41]; exact hSt.2.1) (fun _ => p_m rfl hI) (fun h1 h2 => absurd ho (by omega))⟩) (fun k0 k1 m1 hp => ?_)
  have hp' := hp
  obtain ⟨-, -, -, -, -, -, e4⟩ := hp'
  have q41 : (q_upd m1 1 0 k) 131 41 = m 109 0 := by rw [z_un (by omega), e4 131 41 (by omega), h41]
  refine ⟨m 1 0, q_upd m1 1 0 k, g, rfl, rfl, fun j => by rw [z_un (by omega)]; exact e4 1001 j (by omega), rfl, n_prime hk.1 hk.2 (by rw [q41]; exact hSt.1) (by rw [q41]; exact hSt.2.1) (fun ho => absurd ho (by omega)) (fun _ _ m3 hn => ?_)⟩
  have hn' := hn
  obtain ⟨-, -, -, -, -, -, e4'⟩ := hn'
  have F : ∀ a j, ¬ z_sts a j → ¬ (a = 131 ∧ j = 1) → ¬ (a = 1 ∧ j = 0) → (q_upd m3 131 1 k) a j = m a j := fun a j h1 h2 h3 => by
    unfold z_sts at h1
    rw [z_un (by omega), e4' a j (by omega), z_un (by omega), e4 a j (by omega)]
  have e10 : (q_upd m3 131 1 k) 1 0 = k := by rw [z_un (by omega), e4' 1 0 (by omega), z_ue rfl rfl]
  unfold z_sts at F
  refine p_m (by rw [z_un (by omega), e4 131 1 (by omega)]; exact hR.1.1.symm) (I_gen hI (fun a j h => F a j (by unfold z_chg z_sts at h; omega) (by unfold z_chg at h; omega) (by unfold z_chg at h; omega)) ?_ (i_T_of (fun a j _ _ => F a j (by omega) (by omega) (by omega)) hT) (by show _ = _; rw [F 72 12 (by omega) (by omega) (by omega)]; exact hZ) ?_ (i_St_push hSt hp hn (fun a j h => z_un (by unfold z_sts at h; omega)) (fun a j h => z_un (by unfold z_sts at h; omega)) (fun a j h => F a j (by omega) (by omega) (by omega)) ?_))
  · obtain ⟨g1, g2, g3, g4, g5, g6, g7⟩ := hV
    unfold i_V
    rw [e10, F 1 1 (by omega) (by omega) (by omega), F 1 3 (by omega) (by omega) (by omega), F 1 8 (by omega) (by omega) (by omega)]
    refine ⟨⟨k0, k1⟩, g2, g3, g4, fun i hi => ?_, fun t ht => ?_, fun i hi => ?_⟩
    · rw [F 2 i (by omega) (by omega) (by omega)]; exact g5 i hi
    · rw [F 3 t (by omega) (by omega) (by omega), F 4 t (by omega) (by omega) (by omega), F 5 t (by omega) (by omega) (by omega)]
      obtain ⟨k1, k2, k3, k4, k5, k6, k7⟩ := g6 t ht
      refine ⟨k1, k2, k3, k4, k5, k6, fun i hi => ?_⟩
      rw [F (7 + t) i (by omega) (by omega) (by omega)]; exact k7 i hi
    · rw [F 13 i (by omega) (by omega) (by omega), F 14 i (by omega) (by omega) (by omega)]; exact g7 i hi
  · obtain ⟨⟨a1, a2, a3, a4⟩, b, c, d, e⟩ := hR
    refine ⟨⟨?_, ?_, ?_, ?_⟩, fun i hi => ?_, fun s k hs hk => ?_, fun i hi => ?_, fun j hj => ?_⟩
    · rw [e10, z_ue rfl rfl]
    · rw [F 131 3 (by omega) (by omega) (by omega), F 1 1 (by omega) (by omega) (by omega)]; exact a2
    · rw [F 131 8 (by omega) (by omega) (by omega), F 1 3 (by omega) (by omega) (by omega)]; exact a3
    · rw [F 131 28 (by omega) (by omega) (by omega), F 1 8 (by omega) (by omega) (by omega)]; exact a4
    · rw [F 133 i (by omega) (by omega) (by omega), F 134 i (by omega) (by omega) (by omega), F 135 i (by omega) (by omega) (by omega), F 136 i (by omega) (by omega) (by omega), F 2 i (by omega) (by omega) (by omega), F 3 i (by omega) (by omega) (by omega), F 4 i (by omega) (by omega) (by omega), F 5 i (by omega) (by omega) (by omega)]; exact b i hi
    · rw [F 137 _ (by omega) (by omega) (by omega), F (7 + s) k (by omega) (by omega) (by omega)]; exact c s k hs hk
    · rw [F 151 i (by omega) (by omega) (by omega), F 152 i (by omega) (by omega) (by omega), F 13 i (by omega) (by omega) (by omega), F 14 i (by omega) (by omega) (by omega)]; exact d i hi
    · rw [F 132 j (by omega) (by omega) (by omega)]; exact e j hj
  · intro n h1 h2 h3 h4 h5 h6 h7
    refine Or.inl ⟨h1, ?_, ?_, h5, ?_⟩
    · rw [h2]; exact hV.1.1
    · rw [h2]; exact hV.1.2
    · rw [h2, h7, z_un (by omega), e4 131 1 (by omega)]; exact hR.1.1
theorem p_number {L : Nat} {m : z_M} {g : z_g} {s e w : Int} (hI : I L m g) (hs : z_ok s) (he : z_ok e) (hw : z_ok w) : z_pI (I L) 43 208 [.inl s, .inl e, .inl w] m g := by
  have hh := hI
  obtain ⟨hg, hSc, hD, ⟨hV, hT, hP⟩, hZ, hR, hK, hSt, hL, hX, hW, hF⟩ := hh
  have h41 := hSt.2.2.1
  have v3 := hV.2.2.1
  have hSS := fun h0 h1 => I_nS (m' := m) (s := s) hV hR h0 h1 ⟨rfl, fun _ _ _ _ => rfl⟩
  have mno : ¬ s_has m s e → z_C 208 [.inr (.inr 131), .inl s, .inl e, .inl w] (z_st m g) (fun r' S'' => ∃ v' m2 g2, r' = .inl v' ∧ S'' = z_st m2 g2 ∧ q_w (-1) = q_w v' ∧ I L m2 g2) := fun hn =>
    y_208 (n_isSum hs hR.1.2.2.1 v3 (fun h0 h1 => y_208_3 ⟨(by unfold z_ok; omega), (fun h => absurd h (by omega)), fun _ => n_setOf (hSS h0 h1) (y_208_7 (n_has (by have := (hSS h0 h1).2.2.2.2.1.1; omega) he (fun h2 h3 hb => absurd ⟨⟨h0, h1⟩, h2, h3, hb⟩ hn) (fun _ => y_208_9 ⟨(by unfold z_ok; omega), fun h => absurd rfl h, fun _ => p_m rfl hI⟩)))⟩) (fun hn => y_208_3 ⟨(by unfold z_ok; omega), fun _ => p_m rfl hI, fun h => absurd rfl h⟩))
  refine y_43 (c_isExponentOf hs he hV (fun hh => ?_) (fun hn => y_43_4 ⟨(by unfold z_ok; omega), fun h => absurd rfl h, fun _ => ⟨-1, m, g, rfl, rfl, fun _ => rfl, rfl, mno hn⟩⟩))
  have hh' := hh
  obtain ⟨⟨h0, h1⟩, h2, h3, hb⟩ := hh
  have mw : ∀ (m1 : z_M) (Q : q_V → q_S → Prop), n_fr m m1 → m1 131 8 = m 1 3 → (¬ (0 ≤ w ∧ w ≤ 99) → Q (.inl (-2)) (z_st m1 g)) → (0 ≤ w → w ≤ 99 → z_C 189 [.inr (.inr 131), .inl (13 * s + e), .inl 0, .inl (m1 137 (13 * s + e).toNat)] (z_st m1 g) (fun v S => z_T 208 37 [.inr (.inr 131), .inl s, .inl e, .inl w, .inl (m1 137 (13 * s + e).toNat)] (q_push v []) S Q)) → z_C 208 [.inr (.inr 131), .inl s, .inl e, .inl w] (z_st m1 g) Q := fun m1 Q fr e8 q1 q2 =>
    have hS1 := I_nS hV hR h0 h1 fr
    y_208 (n_isSum hs e8 v3 (fun _ _ => y_208_3 ⟨(by unfold z_ok; omega), (fun h => absurd h (by omega)), fun _ => n_setOf hS1 (y_208_7 (n_has (by have := hS1.2.2.2.2.1.1; omega) he (fun _ _ _ => y_208_9 ⟨(by unfold z_ok; omega), fun _ => n_isIn hw (by unfold z_ok; omega) (by unfold z_ok; omega) (fun w1 w2 => y_208_16 ⟨(by unfold z_ok; omega), fun _ => ⟨⟨by omega, by omega⟩, q2 w1 w2⟩, (fun h => absurd h (by omega))⟩) (fun wn => y_208_16 ⟨(by unfold z_ok; omega), fun h => absurd rfl h, fun _ => q1 (by omega)⟩), (fun h => absurd h (by omega))⟩) (fun hn => absurd ⟨h2, h3, hb⟩ hn)))⟩) (fun hn => absurd ⟨h0, h1⟩ hn))
  have e8 : m 131 8 = m 1 3 := hR.1.2.2.1
  have wok := hw
  unfold z_ok at wok
  refine y_43_4 ⟨(by unfold z_ok; omega), fun _ => ⟨hw, fun w0 => ⟨-2, m, g, rfl, rfl, fun _ => rfl, rfl, mw m _ ⟨rfl, fun _ _ _ _ => rfl⟩ e8 (fun _ => p_m rfl hI) (fun w1 w2 => absurd w0 (by omega))⟩, fun w0 => ⟨(by unfold z_ok2; omega), fun w1 => ⟨z_rw6 h0 (by omega), z_sp6 (by omega), ⟨by omega, by omega⟩, c_push' hSt.1 hSt.2.1 fun m1 hp => ?_⟩, fun w1 => ⟨-2, m, g, rfl, rfl, fun _ => rfl, rfl, mw m _ ⟨rfl, fun _ _ _ _ => rfl⟩ e8 (fun _ => p_m rfl hI) (fun w1 w2 => absurd w1 (by omega))⟩⟩⟩, (fun h => absurd h (by omega))⟩
  refine y_43_29 ⟨z_rw6 h0 (by omega), z_sp6 (by omega), ⟨by omega, by omega⟩, ?_⟩
  have hp' := hp
  obtain ⟨-, -, -, -, -, -, e4⟩ := hp'
  have f1 : ∀ a j, (a < 109 ∨ 113 < a) → ¬ (a = 7 + s.toNat) → (q_upd m1 (7 + s.toNat) e.toNat w) a j = m a j := fun a j h1 h2 => by rw [z_un (by omega), e4 a j (by omega)]
  refine ⟨m (7 + s.toNat) e.toNat, _, g, rfl, rfl, fun j => f1 1001 j (by omega) (by omega), rfl, mw _ _ ⟨f1 131 1 (by omega) (by omega), fun a j _ _ => f1 a j (by omega) (by omega)⟩ (by rw [f1 131 8 (by omega) (by omega)]; exact e8) (fun h => absurd ⟨w0, w1⟩ h) (fun _ _ => ?_)⟩
  have q41 : (q_upd m1 (7 + s.toNat) e.toNat w) 131 41 = m 109 0 := by rw [f1 131 41 (by omega) (by omega), h41]
  have oldv : (q_upd m1 (7 + s.toNat) e.toNat w) 137 (13 * s + e).toNat = m (7 + s.toNat) e.toNat := by
    rw [f1 137 _ (by omega) (by omega), show (13 * s + e).toNat = 13 * s.toNat + e.toNat by omega]
    exact hR.2.2.1 s.toNat e.toNat (by omega) (by omega)
  rw [oldv]
  refine n_notes (by rw [q41]; exact hSt.1) (by rw [q41]; exact hSt.2.1) fun m3 hn => y_208_37 ⟨⟨by omega, by omega⟩, ?_⟩
  have hn' := hn
  obtain ⟨-, -, -, -, -, -, e4'⟩ := hn'
  have F : ∀ a j, ¬ z_sts a j → ¬ (a = 137 ∧ j = (13 * s + e).toNat) → ¬ (a = 7 + s.toNat ∧ j = e.toNat) → (q_upd m3 137 (13 * s + e).toNat w) a j = m a j := fun a j h1 h2 h3 => by
    unfold z_sts at h1
    rw [z_un (by omega), e4' a j (by omega), z_un (by omega), e4 a j (by omega)]
  have en : (q_upd m3 137 (13 * s + e).toNat w) (7 + s.toNat) e.toNat = w := by rw [z_un (by omega), e4' _ _ (by omega), z_ue rfl rfl]
  have en' : (q_upd m3 137 (13 * s + e).toNat w) 137 (13 * s + e).toNat = w := z_ue rfl rfl
  unfold z_sts at F
  have ov := (hV.2.2.2.2.2.1 s.toNat (by omega)).2.2.2.2.2.2 e.toNat (by omega)
  have hst : i_St (q_upd m3 137 (13 * s + e).toNat w) := i_St_push hSt hp hn (fun a j h => z_un (by unfold z_sts at h; omega)) (fun a j h => z_un (by unfold z_sts at h; omega)) (fun a j h => F a j (by omega) (by omega) (by omega)) (fun n g1 g2 g3 g4 g5 g6 g7 => Or.inr (Or.inl ⟨g1, by rw [g2]; exact h0, by rw [g2, F 1 3 (by omega) (by omega) (by omega)]; exact h1, by rw [g3]; exact h2, by rw [g3]; exact h3, ?_, by rw [g4]; exact ov.1, by rw [g4]; exact ov.2, by rw [g5, g2, g3], by rw [g7, g4]⟩))
  generalize (q_upd m3 137 (13 * s + e).toNat w) = m4 at F en en' hst
  · refine p_m rfl (I_gen hI (fun a j h => F a j (by unfold z_chg z_sts at h; omega) (by unfold z_chg at h; omega) (by unfold z_chg at h; omega)) ?_ (i_T_of (fun a j _ _ => F a j (by omega) (by omega) (by omega)) hT) (by show _ = _; rw [F 72 12 (by omega) (by omega) (by omega)]; exact hZ) ?_ hst)
    · obtain ⟨g1, g2, g3, g4, g5, g6, g7⟩ := hV
      unfold i_V
      rw [F 1 0 (by omega) (by omega) (by omega), F 1 1 (by omega) (by omega) (by omega), F 1 3 (by omega) (by omega) (by omega), F 1 8 (by omega) (by omega) (by omega)]
      refine ⟨g1, g2, g3, g4, fun i hi => ?_, fun t ht => ?_, fun i hi => ?_⟩
      · rw [F 2 i (by omega) (by omega) (by omega)]; exact g5 i hi
      · rw [F 3 t (by omega) (by omega) (by omega), F 4 t (by omega) (by omega) (by omega), F 5 t (by omega) (by omega) (by omega)]
        obtain ⟨k1, k2, k3, k4, k5, k6, k7⟩ := g6 t ht
        refine ⟨k1, k2, k3, k4, k5, k6, fun i hi => ?_⟩
        by_cases hti : t = s.toNat ∧ i = e.toNat
        · rw [hti.1, hti.2, en]; omega
        · rw [F (7 + t) i (by omega) (by omega) (by omega)]; exact k7 i hi
      · rw [F 13 i (by omega) (by omega) (by omega), F 14 i (by omega) (by omega) (by omega)]; exact g7 i hi
    · obtain ⟨⟨a1, a2, a3, a4⟩, b, c, d, e'⟩ := hR
      refine ⟨⟨?_, ?_, ?_, ?_⟩, fun i hi => ?_, fun t k ht hk => ?_, fun i hi => ?_, fun j hj => ?_⟩
      · rw [F 131 1 (by omega) (by omega) (by omega), F 1 0 (by omega) (by omega) (by omega)]; exact a1
      · rw [F 131 3 (by omega) (by omega) (by omega), F 1 1 (by omega) (by omega) (by omega)]; exact a2
      · rw [F 131 8 (by omega) (by omega) (by omega), F 1 3 (by omega) (by omega) (by omega)]; exact a3
      · rw [F 131 28 (by omega) (by omega) (by omega), F 1 8 (by omega) (by omega) (by omega)]; exact a4
      · rw [F 133 i (by omega) (by omega) (by omega), F 134 i (by omega) (by omega) (by omega), F 135 i (by omega) (by omega) (by omega), F 136 i (by omega) (by omega) (by omega), F 2 i (by omega) (by omega) (by omega), F 3 i (by omega) (by omega) (by omega), F 4 i (by omega) (by omega) (by omega), F 5 i (by omega) (by omega) (by omega)]; exact b i hi
      · by_cases hti : t = s.toNat ∧ k = e.toNat
        · rw [hti.1, hti.2, en, show 13 * s.toNat + e.toNat = (13 * s + e).toNat by omega]; exact en'
        · rw [F 137 _ (by omega) (by omega) (by omega), F (7 + t) k (by omega) (by omega) (by omega)]; exact c t k ht hk
      · rw [F 151 i (by omega) (by omega) (by omega), F 152 i (by omega) (by omega) (by omega), F 13 i (by omega) (by omega) (by omega), F 14 i (by omega) (by omega) (by omega)]; exact d i hi
      · rw [F 132 j (by omega) (by omega) (by omega)]; exact e' j hj
  · have eS : s_S (q_upd m3 137 (13 * s + e).toNat w) s = s_S m s := by unfold s_S; rw [F 3 _ (by omega) (by omega) (by omega), F 2 _ (by omega) (by omega) (by omega)]
    rw [g2, g3, eS]; exact hb
theorem p_turn {L : Nat} {m : z_M} {g : z_g} {s k f : Int} (hI : I L m g) (hs : z_ok s) (hk : z_ok k) (hf : z_ok f) : z_pI (I L) 47 211 [.inl s, .inl k, .inl f] m g := by
  have hh := hI
  obtain ⟨hg, hSc, hD, ⟨hV, hT, hP⟩, hZ, hR, hK, hSt, hL, hX, hW, hF⟩ := hh
  have h41 := hSt.2.2.1
  have v3 := hV.2.2.1
  have e8 : m 131 8 = m 1 3 := hR.1.2.2.1
  have hk' := hk
  have hf' := hf
  unfold z_ok at hk' hf'
  refine y_47 (c_isSumB hs hV (fun h0 h1 => y_47_3 ⟨(by unfold z_ok; omega), (fun h => absurd h (by omega)), fun _ => c_isKind hk ?_⟩) (fun hn => y_47_3 ⟨(by unfold z_ok; omega), fun _ => ⟨-1, m, g, rfl, rfl, fun _ => rfl, rfl, y_211 (n_isSum hs e8 v3 (fun h0 h1 => absurd ⟨h0, h1⟩ hn) (fun _ => y_211_3 ⟨(by unfold z_ok; omega), fun _ => p_m rfl hI, fun h => absurd rfl h⟩))⟩, fun h => absurd rfl h⟩))
  by_cases hk6 : 0 ≤ k ∧ k < 6
  · rw [if_pos hk6]
    refine y_47_6 ⟨(by unfold z_ok; omega), fun _ => c_isFigure hf ?_, (fun h => absurd h (by omega))⟩
    by_cases hf9 : 0 ≤ f ∧ f ≤ 9
    · rw [if_pos hf9]
      refine y_47_11 ⟨(by unfold z_ok; omega), fun _ => ⟨⟨by omega, by omega⟩, ⟨by omega, by omega⟩, c_push' hSt.1 hSt.2.1 fun m1 hp => y_47_33 ⟨⟨by omega, by omega⟩, ⟨by omega, by omega⟩, ?_⟩⟩, (fun h => absurd h (by omega))⟩
      have hp' := hp
      obtain ⟨-, -, -, -, -, -, e4⟩ := hp'
      obtain ⟨t1, t2, t3, t4, t5, t6, t7⟩ := hV.2.2.2.2.2.1 s.toNat (by omega)
      have f1 : ∀ a j, (a < 109 ∨ 113 < a) → ¬ ((a = 4 ∨ a = 5) ∧ j = s.toNat) → (q_upd (q_upd m1 4 s.toNat k) 5 s.toNat f) a j = m a j := fun a j h1 h2 => by rw [z_un (by omega), z_un (by omega), e4 a j (by omega)]
      have q41 : (q_upd (q_upd m1 4 s.toNat k) 5 s.toNat f) 131 41 = m 109 0 := by rw [f1 131 41 (by omega) (by omega), h41]
      have r5 := hR.2.1 s.toNat (by omega)
      refine ⟨10 * m 4 s.toNat + m 5 s.toNat, _, g, rfl, rfl, fun j => f1 1001 j (by omega) (by omega), rfl, y_211 (n_isSum hs (by rw [f1 131 8 (by omega) (by omega)]; exact e8) v3 (fun _ _ => y_211_3 ⟨(by unfold z_ok; omega), (fun h => absurd h (by omega)), fun _ => n_isIn hk (by unfold z_ok; omega) (by unfold z_ok; omega) (fun _ _ => y_211_8 ⟨(by unfold z_ok; omega), fun _ => n_isIn hf (by unfold z_ok; omega) (by unfold z_ok; omega) (fun _ _ => y_211_15 ⟨(by unfold z_ok; omega), fun _ => ⟨⟨by omega, by omega⟩, ⟨by omega, by omega⟩, ?_⟩, (fun h => absurd h (by omega))⟩) (fun h => absurd hf9 h), (fun h => absurd h (by omega))⟩) (fun h => absurd ⟨hk6.1, by omega⟩ h)⟩) (fun h => absurd ⟨h0, h1⟩ h))⟩
      rw [show (q_upd (q_upd m1 4 s.toNat k) 5 s.toNat f) 135 s.toNat = m 4 s.toNat by rw [f1 135 _ (by omega) (by omega)]; exact r5.2.2.1, show (q_upd (q_upd m1 4 s.toNat k) 5 s.toNat f) 136 s.toNat = m 5 s.toNat by rw [f1 136 _ (by omega) (by omega)]; exact r5.2.2.2]
      refine n_notes (by rw [q41]; exact hSt.1) (by rw [q41]; exact hSt.2.1) fun m3 hn => y_211_35 ⟨⟨by omega, by omega⟩, ⟨by omega, by omega⟩, ?_⟩
      have hn' := hn
      obtain ⟨-, -, -, -, -, -, e4'⟩ := hn'
      have F : ∀ a j, ¬ z_sts a j → ¬ ((a = 4 ∨ a = 5 ∨ a = 135 ∨ a = 136) ∧ j = s.toNat) → (q_upd (q_upd m3 135 s.toNat k) 136 s.toNat f) a j = m a j := fun a j h1 h2 => by
        unfold z_sts at h1
        rw [z_un (by omega), z_un (by omega), e4' a j (by omega), f1 a j (by omega) (by omega)]
      have n1 : (q_upd (q_upd m3 135 s.toNat k) 136 s.toNat f) 4 s.toNat = k := by rw [z_un (by omega), z_un (by omega), e4' _ _ (by omega), z_un (by omega), z_ue rfl rfl]
      have n2 : (q_upd (q_upd m3 135 s.toNat k) 136 s.toNat f) 5 s.toNat = f := by rw [z_un (by omega), z_un (by omega), e4' _ _ (by omega), z_ue rfl rfl]
      have n3 : (q_upd (q_upd m3 135 s.toNat k) 136 s.toNat f) 135 s.toNat = k := by rw [z_un (by omega), z_ue rfl rfl]
      have n4 : (q_upd (q_upd m3 135 s.toNat k) 136 s.toNat f) 136 s.toNat = f := by rw [z_ue rfl rfl]
      unfold z_sts at F
      have hst : i_St (q_upd (q_upd m3 135 s.toNat k) 136 s.toNat f) := i_St_push hSt hp hn (fun a j h => by unfold z_sts at h; rw [z_un (by omega), z_un (by omega)]) (fun a j h => by unfold z_sts at h; rw [z_un (by omega), z_un (by omega)]) (fun a j h => F a j (by omega) (by omega)) (fun n g1 g2 g3 g4 g5 g6 g7 => Or.inr (Or.inr ⟨g1, by rw [g2]; exact h0, by rw [g2, F 1 3 (by omega) (by omega)]; exact h1, by rw [g3]; exact t3, by rw [g3]; exact t4, by rw [g4]; exact t5, by rw [g4]; exact t6, g5, by rw [g6, g2], by rw [g7, g3, g4]⟩))
      generalize (q_upd (q_upd m3 135 s.toNat k) 136 s.toNat f) = m4 at F n1 n2 n3 n4 hst
      refine p_m rfl (I_gen hI (fun a j h => F a j (by unfold z_chg z_sts at h; omega) (by unfold z_chg at h; omega)) ?_ (i_T_of (fun a j _ _ => F a j (by omega) (by omega)) hT) (by show _ = _; rw [F 72 12 (by omega) (by omega)]; exact hZ) ?_ hst)
      · obtain ⟨g1, g2, g3, g4, g5, g6, g7⟩ := hV
        unfold i_V
        rw [F 1 0 (by omega) (by omega), F 1 1 (by omega) (by omega), F 1 3 (by omega) (by omega), F 1 8 (by omega) (by omega)]
        refine ⟨g1, g2, g3, g4, fun i hi => ?_, fun t ht => ?_, fun i hi => ?_⟩
        · rw [F 2 i (by omega) (by omega)]; exact g5 i hi
        · have k7 := (g6 t ht).2.2.2.2.2.2
          rw [F 3 t (by omega) (by omega)]
          by_cases hti : t = s.toNat
          · rw [hti, n1, n2]
            refine ⟨t1, t2, hk6.1, by omega, hf9.1, hf9.2, fun i hi => ?_⟩
            rw [F _ i (by omega) (by omega)]; exact t7 i hi
          · obtain ⟨k1, k2, k3, k4, k5, k6, -⟩ := g6 t ht
            rw [F 4 t (by omega) (by omega), F 5 t (by omega) (by omega)]
            refine ⟨k1, k2, k3, k4, k5, k6, fun i hi => ?_⟩
            rw [F (7 + t) i (by omega) (by omega)]; exact k7 i hi
        · rw [F 13 i (by omega) (by omega), F 14 i (by omega) (by omega)]; exact g7 i hi
      · obtain ⟨⟨a1, a2, a3, a4⟩, b, c, d, e'⟩ := hR
        refine ⟨⟨?_, ?_, ?_, ?_⟩, fun i hi => ?_, fun t k ht hk => ?_, fun i hi => ?_, fun j hj => ?_⟩
        · rw [F 131 1 (by omega) (by omega), F 1 0 (by omega) (by omega)]; exact a1
        · rw [F 131 3 (by omega) (by omega), F 1 1 (by omega) (by omega)]; exact a2
        · rw [F 131 8 (by omega) (by omega), F 1 3 (by omega) (by omega)]; exact a3
        · rw [F 131 28 (by omega) (by omega), F 1 8 (by omega) (by omega)]; exact a4
        · rw [F 133 i (by omega) (by omega), F 134 i (by omega) (by omega), F 2 i (by omega) (by omega), F 3 i (by omega) (by omega)]
          by_cases hti : i = s.toNat
          · rw [hti, n1, n2, n3, n4]; exact ⟨(b _ (by omega)).1, (b _ (by omega)).2.1, rfl, rfl⟩
          · rw [F 135 i (by omega) (by omega), F 136 i (by omega) (by omega), F 4 i (by omega) (by omega), F 5 i (by omega) (by omega)]; exact b i hi
        · rw [F 137 _ (by omega) (by omega), F (7 + t) k (by omega) (by omega)]; exact c t k ht hk
        · rw [F 151 i (by omega) (by omega), F 152 i (by omega) (by omega), F 13 i (by omega) (by omega), F 14 i (by omega) (by omega)]; exact d i hi
        · rw [F 132 j (by omega) (by omega)]; exact e' j hj
    · rw [if_neg hf9]
      refine y_47_11 ⟨(by unfold z_ok; omega), (fun h => absurd h (by omega)), fun _ => ⟨-2, m, g, rfl, rfl, fun _ => rfl, rfl, y_211 (n_isSum hs e8 v3 (fun _ _ => y_211_3 ⟨(by unfold z_ok; omega), (fun h => absurd h (by omega)), fun _ => n_isIn hk (by unfold z_ok; omega) (by unfold z_ok; omega) (fun _ _ => y_211_8 ⟨(by unfold z_ok; omega), fun _ => n_isIn hf (by unfold z_ok; omega) (by unfold z_ok; omega) (fun h1 h2 => absurd ⟨h1, h2⟩ hf9) (fun _ => y_211_15 ⟨(by unfold z_ok; omega), (fun h => absurd h (by omega)), fun _ => p_m rfl hI⟩), (fun h => absurd h (by omega))⟩) (fun h => absurd ⟨hk6.1, by omega⟩ h)⟩) (fun h => absurd ⟨h0, h1⟩ h))⟩⟩
  · rw [if_neg hk6]
    refine y_47_6 ⟨(by unfold z_ok; omega), (fun h => absurd h (by omega)), fun _ => ⟨-1, m, g, rfl, rfl, fun _ => rfl, rfl, y_211 (n_isSum hs e8 v3 (fun _ _ => y_211_3 ⟨(by unfold z_ok; omega), (fun h => absurd h (by omega)), fun _ => n_isIn hk (by unfold z_ok; omega) (by unfold z_ok; omega) (fun h1 h2 => absurd ⟨h1, by omega⟩ hk6) (fun _ => y_211_8 ⟨(by unfold z_ok; omega), (fun h => absurd h (by omega)), fun _ => p_m rfl hI⟩)⟩) (fun h => absurd ⟨h0, h1⟩ h))⟩⟩
