/-! PAIRS: support, sum, see, feed -/
theorem x_many_13 (S : Nat) : x_many S ≤ 13 := by
  have := List.length_filter_le (fun e => S.testBit e) (List.range 13)
  unfold x_many x_pre
  simp at this ⊢
  omega
theorem i_St_0 {m : z_M} (h1 : m 109 0 = 0) (h2 : m 131 41 = 0) : i_St m := ⟨by omega, by omega, by omega, fun i hi => absurd hi (by omega)⟩
theorem p_support {L : Nat} {m : z_M} {g : z_g} {k : Int} (hI : I L m g) (hk : z_ok k) : z_pI (I L) 18 190 [.inl k] m g := by
  have hh := hI
  obtain ⟨hg, hSc, hD, ⟨hV, hT, hP⟩, hZ, hR, hK, hSt, hL, hX, hW, hF⟩ := hh
  have v2 := hV.2.1
  have r3 : m 131 3 = m 1 1 := hR.1.2.1
  have no : (∀ S : Nat, k = S → ¬ x_V S) → ∃ v m1 g1, (.inl (-2) : q_V) = .inl v ∧ z_st m g = z_st m1 g1 ∧ (∀ j, m1 1001 j = m 1001 j) ∧ g1.1 = g.1 ∧ z_C 190 [.inr (.inr 131), .inl k] (z_st m1 g1) (fun r' S'' => ∃ v' m2 g2, r' = .inl v' ∧ S'' = z_st m2 g2 ∧ q_w v = q_w v' ∧ I L m2 g2) := fun hno =>
    ⟨-2, m, g, rfl, rfl, fun _ => rfl, rfl, y_190 (n_isRight hk (fun S hS hx => absurd hx (hno S hS)) (fun _ => y_190_2 ⟨(by unfold z_ok; omega), fun h => absurd rfl h, fun _ => p_m rfl hI⟩))⟩
  refine y_18 ⟨hk, fun h => no (fun S hS => absurd h (by omega)), fun h0 => ?_⟩
  obtain ⟨S, rfl⟩ := Int.eq_ofNat_of_zero_le h0
  have hk' := hk
  unfold z_ok at hk'
  have e13 : q_bin 7 (S : Int) 13 = ((S >>> 13 : Nat) : Int) := q_b_shr (e := 13) (by omega) (by decide)
  rw [Nat.shiftRight_eq_div_pow] at e13
  rw [e13]
  refine ⟨by unfold z_ok; omega, fun h => no (fun S' hS hx => ?_), fun h => c_bitCount rfl (by omega) (y_18_8 ?_)⟩
  · have := hx.1
    have hSS : S' = S := by omega
    subst hSS
    omega
  have hlt : S < 8192 := by omega
  rw [r_bc_many hlt]
  have hml := x_many_13 S
  refine c_isMany (by unfold z_ok; omega) ?_
  by_cases hm : 2 ≤ (x_many S : Int) ∧ (x_many S : Int) ≤ 6
  · have hx : x_V S := ⟨hlt, by omega, by omega⟩
    rw [if_pos hm]
    refine y_18_9 ⟨(by unfold z_ok; omega), fun _ => ⟨(by unfold z_ok2; omega), fun hl => c_clear (y_18_22 (c_addSupport (by rw [z_un (by omega)]; exact v2.1) (by rw [z_un (by omega)]; omega) (y_18_26 ?_))), fun hf => ⟨-4, m, g, rfl, rfl, fun _ => rfl, rfl, y_190 (n_isRight hk (fun _ _ _ => y_190_2 ⟨(by unfold z_ok; omega), fun _ => ⟨(by unfold z_ok2; omega), fun h => absurd h (by omega), fun _ => p_m rfl hI⟩, (fun h => absurd h (by omega))⟩) (fun h => absurd hx (h S rfl)))⟩⟩, (fun h => absurd h (by omega))⟩
    rw [show (q_upd m 109 0 0) 1 1 = m 1 1 from z_un (by omega)]
    have f1 : ∀ a j, ¬ (a = 109 ∧ j = 0) → ¬ (a = 2 ∧ j = (m 1 1).toNat) → ¬ (a = 1 ∧ j = 1) → (q_upd (q_upd (q_upd m 109 0 0) 2 (m 1 1).toNat (S : Int)) 1 1 (m 1 1 + 1)) a j = m a j := fun a j h1 h2 h3 => by rw [z_un h3, z_un h2, z_un h1]
    have u1 : (q_upd (q_upd (q_upd m 109 0 0) 2 (m 1 1).toNat (S : Int)) 1 1 (m 1 1 + 1)) 109 0 = 0 := by rw [z_un (by omega), z_un (by omega), z_ue rfl rfl]
    have u2 : (q_upd (q_upd (q_upd m 109 0 0) 2 (m 1 1).toNat (S : Int)) 1 1 (m 1 1 + 1)) 2 (m 1 1).toNat = S := by rw [z_un (by omega), z_ue rfl rfl]
    have u3 : (q_upd (q_upd (q_upd m 109 0 0) 2 (m 1 1).toNat (S : Int)) 1 1 (m 1 1 + 1)) 1 1 = m 1 1 + 1 := z_ue rfl rfl
    generalize (q_upd (q_upd (q_upd m 109 0 0) 2 (m 1 1).toNat (S : Int)) 1 1 (m 1 1 + 1)) = m1 at f1 u1 u2 u3
    have e3 : m1 131 3 = m 1 1 := by rw [f1 131 3 (by omega) (by omega) (by omega)]; exact r3
    have e3' : (q_upd m1 131 41 0) 131 3 = m 1 1 := by rw [z_un (by omega)]; exact e3
    refine ⟨m 1 1, m1, g, rfl, rfl, fun j => f1 1001 j (by omega) (by omega) (by omega), rfl, y_190 (n_isRight hk (fun _ _ _ => y_190_2 ⟨(by unfold z_ok; omega), fun _ => ⟨(by unfold z_ok2; omega), fun _ => y_193 ⟨⟨by omega, by omega⟩, y_190_17 ?_⟩, fun h => absurd h (by omega)⟩, (fun h => absurd h (by omega))⟩) (fun h => absurd hx (h S rfl)))⟩
    rw [e3']
    have F : ∀ a j, ¬ (a = 109 ∧ j = 0) → ¬ ((a = 2 ∨ a = 133) ∧ j = (m 1 1).toNat) → ¬ (a = 1 ∧ j = 1) → ¬ (a = 131 ∧ (j = 3 ∨ j = 41)) → (q_upd (q_upd (q_upd m1 131 41 0) 133 (m 1 1).toNat (S : Int)) 131 3 (m 1 1 + 1)) a j = m a j := fun a j h1 h2 h3 h4 => by rw [z_un (by omega), z_un (by omega), z_un (by omega), f1 a j h1 (by omega) h3]
    have w1 : (q_upd (q_upd (q_upd m1 131 41 0) 133 (m 1 1).toNat (S : Int)) 131 3 (m 1 1 + 1)) 109 0 = 0 := by rw [z_un (by omega), z_un (by omega), z_un (by omega)]; exact u1
    have w2 : (q_upd (q_upd (q_upd m1 131 41 0) 133 (m 1 1).toNat (S : Int)) 131 3 (m 1 1 + 1)) 2 (m 1 1).toNat = S := by rw [z_un (by omega), z_un (by omega), z_un (by omega)]; exact u2
    have w3 : (q_upd (q_upd (q_upd m1 131 41 0) 133 (m 1 1).toNat (S : Int)) 131 3 (m 1 1 + 1)) 1 1 = m 1 1 + 1 := by rw [z_un (by omega), z_un (by omega), z_un (by omega)]; exact u3
    have w4 : (q_upd (q_upd (q_upd m1 131 41 0) 133 (m 1 1).toNat (S : Int)) 131 3 (m 1 1 + 1)) 133 (m 1 1).toNat = S := by rw [z_un (by omega), z_ue rfl rfl]
    have w5 : (q_upd (q_upd (q_upd m1 131 41 0) 133 (m 1 1).toNat (S : Int)) 131 3 (m 1 1 + 1)) 131 3 = m 1 1 + 1 := z_ue rfl rfl
    have w6 : (q_upd (q_upd (q_upd m1 131 41 0) 133 (m 1 1).toNat (S : Int)) 131 3 (m 1 1 + 1)) 131 41 = 0 := by rw [z_un (by omega), z_un (by omega), z_ue rfl rfl]
    generalize (q_upd (q_upd (q_upd m1 131 41 0) 133 (m 1 1).toNat (S : Int)) 131 3 (m 1 1 + 1)) = m4 at F w1 w2 w3 w4 w5 w6
    refine p_m (by omega) (I_gen hI (fun a j h => F a j (by unfold z_chg z_sts at h; omega) (by unfold z_chg at h; omega) (by unfold z_chg at h; omega) (by unfold z_chg z_sts at h; omega)) ?_ (i_T_of (fun a j _ _ => F a j (by omega) (by omega) (by omega) (by omega)) hT) (by show _ = _; rw [F 72 12 (by omega) (by omega) (by omega) (by omega)]; exact hZ) ?_ (i_St_0 w1 w6))
    · obtain ⟨g1, g2, g3, g4, g5, g6, g7⟩ := hV
      unfold i_V
      rw [F 1 0 (by omega) (by omega) (by omega) (by omega), w3, F 1 3 (by omega) (by omega) (by omega) (by omega), F 1 8 (by omega) (by omega) (by omega) (by omega)]
      refine ⟨g1, by omega, g3, g4, fun i hi => ?_, fun t ht => ?_, fun i hi => ?_⟩
      · by_cases hin : i = (m 1 1).toNat
        · rw [hin, w2]; exact ⟨S, rfl, hx⟩
        · rw [F 2 i (by omega) (by omega) (by omega) (by omega)]; exact g5 i (by omega)
      · rw [F 3 t (by omega) (by omega) (by omega) (by omega), F 4 t (by omega) (by omega) (by omega) (by omega), F 5 t (by omega) (by omega) (by omega) (by omega)]
        obtain ⟨k1, k2, k3, k4, k5, k6, k7⟩ := g6 t ht
        refine ⟨k1, by omega, k3, k4, k5, k6, fun i hi => ?_⟩
        rw [F (7 + t) i (by omega) (by omega) (by omega) (by omega)]; exact k7 i hi
      · rw [F 13 i (by omega) (by omega) (by omega) (by omega), F 14 i (by omega) (by omega) (by omega) (by omega)]; exact g7 i hi
    · obtain ⟨⟨a1, a2, a3, a4⟩, b, c, d, e'⟩ := hR
      refine ⟨⟨?_, ?_, ?_, ?_⟩, fun i hi => ?_, fun t k ht hk => ?_, fun i hi => ?_, fun j hj => ?_⟩
      · rw [F 131 1 (by omega) (by omega) (by omega) (by omega), F 1 0 (by omega) (by omega) (by omega) (by omega)]; exact a1
      · rw [w5, w3]
      · rw [F 131 8 (by omega) (by omega) (by omega) (by omega), F 1 3 (by omega) (by omega) (by omega) (by omega)]; exact a3
      · rw [F 131 28 (by omega) (by omega) (by omega) (by omega), F 1 8 (by omega) (by omega) (by omega) (by omega)]; exact a4
      · rw [F 134 i (by omega) (by omega) (by omega) (by omega), F 3 i (by omega) (by omega) (by omega) (by omega), F 135 i (by omega) (by omega) (by omega) (by omega), F 136 i (by omega) (by omega) (by omega) (by omega), F 4 i (by omega) (by omega) (by omega) (by omega), F 5 i (by omega) (by omega) (by omega) (by omega)]
        by_cases hin : i = (m 1 1).toNat
        · refine ⟨?_, (b i hi).2⟩
          rw [hin, w2, w4]
        · rw [F 133 i (by omega) (by omega) (by omega) (by omega), F 2 i (by omega) (by omega) (by omega) (by omega)]; exact b i hi
      · rw [F 137 _ (by omega) (by omega) (by omega) (by omega), F (7 + t) k (by omega) (by omega) (by omega) (by omega)]; exact c t k ht hk
      · rw [F 151 i (by omega) (by omega) (by omega) (by omega), F 152 i (by omega) (by omega) (by omega) (by omega), F 13 i (by omega) (by omega) (by omega) (by omega), F 14 i (by omega) (by omega) (by omega) (by omega)]; exact d i hi
      · rw [F 132 j (by omega) (by omega) (by omega) (by omega)]; exact e' j hj
  · rw [if_neg hm]
    refine y_18_9 ⟨(by unfold z_ok; omega), (fun h => absurd h (by omega)), fun _ => no (fun S' hS hx => ?_)⟩
    have hSS : S' = S := by omega
    subst hSS
    exact hm ⟨by have := hx.2.1; omega, by have := hx.2.2; omega⟩
/-! see -/
theorem p_see {L : Nat} {m : z_M} {g : z_g} {a b : Int} (hI : I L m g) (ha : z_ok a) (hb : z_ok b) : z_pI (I L) 135 264 [.inl a, .inl b] m g := by
  have hh := hI
  obtain ⟨hg, hSc, hD, ⟨hV, hT, hP⟩, hZ, hR, hK, hSt, hL, hX, hW, hF⟩ := hh
  have v4 := hV.2.2.2.1
  have r4 : m 131 28 = m 1 8 := hR.1.2.2.2
  have ha' := ha
  have hb' := hb
  unfold z_ok at ha' hb'
  have no : ¬ a = -1 → ¬ ((0 ≤ a ∧ a ≤ 30) ∧ 0 ≤ b ∧ b ≤ 30) → ∃ v m1 g1, (.inl (-2) : q_V) = .inl v ∧ z_st m g = z_st m1 g1 ∧ (∀ j, m1 1001 j = m 1001 j) ∧ g1.1 = g.1 ∧ z_C 264 [.inr (.inr 131), .inl a, .inl b] (z_st m1 g1) (fun r' S'' => ∃ v' m2 g2, r' = .inl v' ∧ S'' = z_st m2 g2 ∧ q_w v = q_w v' ∧ I L m2 g2) := fun h1 h2 =>
    ⟨-2, m, g, rfl, rfl, fun _ => rfl, rfl, y_264 ⟨(by unfold z_ok2; omega), fun _ => n_isIn ha (by unfold z_ok; omega) (by unfold z_ok; omega) (fun h3 h4 => y_264_12 ⟨(by unfold z_ok; omega), (fun h => absurd h (by omega)), fun _ => n_isIn hb (by unfold z_ok; omega) (by unfold z_ok; omega) (fun h5 h6 => absurd ⟨⟨h3, h4⟩, h5, h6⟩ h2) (fun _ => y_264_17 ⟨(by unfold z_ok; omega), (fun h => absurd h (by omega)), fun _ => p_m rfl hI⟩)⟩) (fun _ => y_264_12 ⟨(by unfold z_ok; omega), fun _ => p_m rfl hI, (fun h => absurd h (by omega))⟩), fun h => absurd h h1⟩⟩
  have fin : ∀ (n : Int) (m4 : z_M), (∀ x j, ¬ (x = 1 ∧ j = 8) → ¬ (x = 131 ∧ j = 28) → ¬ ((x = 13 ∨ x = 14 ∨ x = 151 ∨ x = 152) ∧ j = (m 1 8).toNat) → m4 x j = m x j) → m4 1 8 = n → m4 131 28 = n → 0 ≤ n → n ≤ 4 → (n = 0 ∨ n = m 1 8 + 1) → (∀ i, i < 4 → m4 151 i = m4 13 i ∧ m4 152 i = m4 14 i) → (n = m 1 8 + 1 → 0 ≤ m4 13 (m 1 8).toNat ∧ m4 13 (m 1 8).toNat ≤ 30 ∧ 0 ≤ m4 14 (m 1 8).toNat ∧ m4 14 (m 1 8).toNat ≤ 30) → I L m4 g := fun n m4 F e1 e2 n0 n4 hn q1 q2 => by
    refine I_gen hI (fun a j h => F a j (by unfold z_chg z_sts at h; omega) (by unfold z_chg at h; omega) (by unfold z_chg at h; omega)) ?_ (i_T_of (fun a j _ _ => F a j (by omega) (by omega) (by omega)) hT) (by show _ = _; rw [F 72 12 (by omega) (by omega) (by omega)]; exact hZ) ?_ (i_St_of (fun a j h => F a j (by omega) (by omega) (by omega)) hSt)
    · obtain ⟨g1, g2, g3, g4, g5, g6, g7⟩ := hV
      unfold i_V
      rw [F 1 0 (by omega) (by omega) (by omega), F 1 1 (by omega) (by omega) (by omega), F 1 3 (by omega) (by omega) (by omega), e1]
      refine ⟨g1, g2, g3, ⟨n0, n4⟩, fun i hi => ?_, fun t ht => ?_, fun i hi => ?_⟩
      · rw [F 2 i (by omega) (by omega) (by omega)]; exact g5 i hi
      · rw [F 3 t (by omega) (by omega) (by omega), F 4 t (by omega) (by omega) (by omega), F 5 t (by omega) (by omega) (by omega)]
        obtain ⟨k1, k2, k3, k4, k5, k6, k7⟩ := g6 t ht
        refine ⟨k1, k2, k3, k4, k5, k6, fun i hi => ?_⟩
        rw [F (7 + t) i (by omega) (by omega) (by omega)]; exact k7 i hi
      · by_cases hin : i = (m 1 8).toNat
        · rw [hin]; exact q2 (by omega)
        · rw [F 13 i (by omega) (by omega) (by omega), F 14 i (by omega) (by omega) (by omega)]; exact g7 i (by omega)
    · obtain ⟨⟨a1, a2, a3, a4⟩, b, c, d, e'⟩ := hR
      refine ⟨⟨?_, ?_, ?_, ?_⟩, fun i hi => ?_, fun t k ht hk => ?_, q1, fun j hj => ?_⟩
      · rw [F 131 1 (by omega) (by omega) (by omega), F 1 0 (by omega) (by omega) (by omega)]; exact a1
      · rw [F 131 3 (by omega) (by omega) (by omega), F 1 1 (by omega) (by omega) (by omega)]; exact a2
      · rw [F 131 8 (by omega) (by omega) (by omega), F 1 3 (by omega) (by omega) (by omega)]; exact a3
      · rw [e1, e2]
      · rw [F 133 i (by omega) (by omega) (by omega), F 134 i (by omega) (by omega) (by omega), F 135 i (by omega) (by omega) (by omega), F 136 i (by omega) (by omega) (by omega), F 2 i (by omega) (by omega) (by omega), F 3 i (by omega) (by omega) (by omega), F 4 i (by omega) (by omega) (by omega), F 5 i (by omega) (by omega) (by omega)]; exact b i hi
      · rw [F 137 _ (by omega) (by omega) (by omega), F (7 + t) k (by omega) (by omega) (by omega)]; exact c t k ht hk
      · rw [F 132 j (by omega) (by omega) (by omega)]; exact e' j hj
  refine y_135 ⟨(by unfold z_ok2; omega), fun hne => ⟨ha, fun h => no hne (by omega), fun h0 => ⟨(by unfold z_ok2; omega), fun h => no hne (by omega), fun h1 => ⟨hb, fun h => no hne (by omega), fun h2 => ⟨(by unfold z_ok2; omega), fun h3 => ⟨(by unfold z_ok2; omega), fun hl => y_136 ⟨(by unfold z_ok2; omega), fun _ => ⟨⟨by omega, by omega⟩, ⟨by omega, by omega⟩, y_135_33 ?_⟩, (fun h => absurd h (by omega))⟩, fun hf => ?_⟩, fun h => no hne (by omega)⟩⟩⟩⟩, fun he => ?_⟩
  · have e28 : (q_upd (q_upd (q_upd m 13 (m 1 8).toNat a) 14 (m 1 8).toNat b) 1 8 (m 1 8 + 1)) 131 28 = m 1 8 := by rw [z_un (by omega), z_un (by omega), z_un (by omega)]; exact r4
    refine ⟨m 1 8 + 1, _, g, rfl, rfl, fun j => by rw [z_un (by omega), z_un (by omega), z_un (by omega)], rfl, y_264 ⟨(by unfold z_ok2; omega), fun _ => n_isIn ha (by unfold z_ok; omega) (by unfold z_ok; omega) (fun _ _ => y_264_12 ⟨(by unfold z_ok; omega), (fun h => absurd h (by omega)), fun _ => n_isIn hb (by unfold z_ok; omega) (by unfold z_ok; omega) (fun _ _ => y_264_17 ⟨(by unfold z_ok; omega), fun _ => ⟨(by unfold z_ok2; omega), fun _ => ⟨⟨by omega, by omega⟩, ⟨by omega, by omega⟩, ?_⟩, (fun h => absurd h (by omega))⟩, (fun h => absurd h (by omega))⟩) (fun h => absurd ⟨h2, h3⟩ h)⟩) (fun h => absurd ⟨h0, h1⟩ h), fun h => absurd h hne⟩⟩
    rw [e28]
    refine p_m rfl (fin (m 1 8 + 1) _ (fun x j h1 h2 h3 => by rw [z_un (by omega), z_un (by omega), z_un (by omega), z_un (by omega), z_un (by omega), z_un (by omega)]) ?_ (z_ue rfl rfl) (by omega) (by omega) (Or.inr rfl) (fun i hi => ?_) (fun _ => ?_))
    · rw [z_un (by omega), z_un (by omega), z_un (by omega), z_ue rfl rfl]
    · by_cases hin : i = (m 1 8).toNat
      · subst hin
        refine ⟨?_, ?_⟩
        · rw [z_un (by omega), z_un (by omega), z_ue rfl rfl, z_un (by omega), z_un (by omega), z_un (by omega), z_un (by omega), z_un (by omega), z_ue rfl rfl]
        · rw [z_un (by omega), z_ue rfl rfl, z_un (by omega), z_un (by omega), z_un (by omega), z_un (by omega), z_ue rfl rfl]
      · refine ⟨?_, ?_⟩
        · rw [z_un (by omega), z_un (by omega), z_un (by omega), z_un (by omega), z_un (by omega), z_un (by omega), z_un (by omega), z_un (by omega), z_un (by omega), z_un (by omega), z_un (by omega), z_un (by omega)]; exact (hR.2.2.2.1 i hi).1
        · rw [z_un (by omega), z_un (by omega), z_un (by omega), z_un (by omega), z_un (by omega), z_un (by omega), z_un (by omega), z_un (by omega), z_un (by omega), z_un (by omega), z_un (by omega), z_un (by omega)]; exact (hR.2.2.2.1 i hi).2
    · refine ⟨?_, ?_, ?_, ?_⟩
      · rw [z_un (by omega), z_un (by omega), z_un (by omega), z_un (by omega), z_un (by omega), z_ue rfl rfl]; exact h0
      · rw [z_un (by omega), z_un (by omega), z_un (by omega), z_un (by omega), z_un (by omega), z_ue rfl rfl]; exact h1
      · rw [z_un (by omega), z_un (by omega), z_un (by omega), z_un (by omega), z_ue rfl rfl]; exact h2
      · rw [z_un (by omega), z_un (by omega), z_un (by omega), z_un (by omega), z_ue rfl rfl]; exact h3
  · refine ⟨-4, m, g, rfl, rfl, fun _ => rfl, rfl, y_264 ⟨(by unfold z_ok2; omega), fun _ => n_isIn ha (by unfold z_ok; omega) (by unfold z_ok; omega) (fun _ _ => y_264_12 ⟨(by unfold z_ok; omega), (fun h => absurd h (by omega)), fun _ => n_isIn hb (by unfold z_ok; omega) (by unfold z_ok; omega) (fun _ _ => y_264_17 ⟨(by unfold z_ok; omega), fun _ => ⟨(by unfold z_ok2; omega), (fun h => absurd h (by omega)), fun _ => p_m rfl hI⟩, (fun h => absurd h (by omega))⟩) (fun h => absurd ⟨h2, h3⟩ h)⟩) (fun h => absurd ⟨h0, h1⟩ h), fun h => absurd h hne⟩⟩
  · refine ⟨0, _, g, rfl, rfl, fun j => by rw [z_un (by omega)], rfl, y_264 ⟨(by unfold z_ok2; omega), fun h => absurd he h, fun _ => p_m rfl (fin 0 _ (fun x j h1 h2 h3 => by rw [z_un (by omega), z_un (by omega)]) ?_ (z_ue rfl rfl) (by omega) (by omega) (Or.inl rfl) (fun i hi => ?_) (fun h => absurd h (by omega)))⟩⟩
    · rw [z_un (by omega), z_ue rfl rfl]
    · rw [z_un (by omega), z_un (by omega), z_un (by omega), z_un (by omega), z_un (by omega), z_un (by omega), z_un (by omega), z_un (by omega)]
      exact hR.2.2.2.1 i hi
/-! feed -/
theorem p_feed {L : Nat} {m : z_M} {g : z_g} {a : Int} (hI : I L m g) (ha : z_ok a) : z_pI (I L) 140 268 [.inl a] m g := by
  have hh := hI
  obtain ⟨hg, hSc, hD, ⟨hV, hT, hP⟩, hZ, hR, hK, hSt, hL, ⟨x1, x2, x3, x4⟩, hW, hF⟩ := hh
  have ha' := ha
  unfold z_ok at ha'
  have hvp := i_vp hg
  have no : ¬ (0 ≤ a ∧ a ≤ 127) → ∃ v m1 g1, (.inl (-2) : q_V) = .inl v ∧ z_st m g = z_st m1 g1 ∧ (∀ j, m1 1001 j = m 1001 j) ∧ g1.1 = g.1 ∧ z_C 268 [.inr (.inr 131), .inl a] (z_st m1 g1) (fun r' S'' => ∃ v' m2 g2, r' = .inl v' ∧ S'' = z_st m2 g2 ∧ q_w v = q_w v' ∧ I L m2 g2) := fun h2 =>
    ⟨-2, m, g, rfl, rfl, fun _ => rfl, rfl, y_268 (n_isIn ha (by unfold z_ok; omega) (by unfold z_ok; omega) (fun h3 h4 => absurd ⟨h3, h4⟩ h2) (fun _ => y_268_4 ⟨(by unfold z_ok; omega), (fun h => absurd h (by omega)), fun _ => p_m rfl hI⟩))⟩
  refine y_140 ⟨ha, fun h => no (by omega), fun h0 => ⟨(by unfold z_ok2; omega), fun h1 => ⟨(by unfold z_ok2; omega), fun hl => y_141 ⟨(by unfold z_ok2; omega), (fun h => absurd h (by omega)), fun _ => ⟨⟨by omega, by omega⟩, y_140_18 ?_⟩⟩, fun hf => ?_⟩, fun h => no (by omega)⟩⟩
  · have e33 : (q_upd (q_upd m 122 (m 121 1).toNat a) 121 1 (m 121 1 + 1)) 131 33 = m 121 1 := by rw [z_un (by omega), z_un (by omega)]; exact x3
    refine ⟨m 121 1 + 1, _, g, rfl, rfl, fun j => by rw [z_un (by omega), z_un (by omega)], rfl, y_268 (n_isIn ha (by unfold z_ok; omega) (by unfold z_ok; omega) (fun _ _ => y_268_4 ⟨(by unfold z_ok; omega), fun _ => ⟨(by unfold z_ok2; omega), fun _ => ⟨⟨by omega, by omega⟩, ?_⟩, (fun h => absurd h (by omega))⟩, (fun h => absurd h (by omega))⟩) (fun h => absurd ⟨h0, h1⟩ h))⟩
    rw [e33]
    refine p_m rfl ?_
    have F : ∀ x j, ¬ (x = 121 ∧ j = 1) → ¬ (x = 131 ∧ j = 33) → ¬ ((x = 122 ∨ x = 154) ∧ j = (m 121 1).toNat) → (q_upd (q_upd (q_upd (q_upd m 122 (m 121 1).toNat a) 121 1 (m 121 1 + 1)) 154 (m 121 1).toNat a) 131 33 (m 121 1 + 1)) x j = m x j := fun x j h1 h2 h3 => by rw [z_un (by omega), z_un (by omega), z_un (by omega), z_un (by omega)]
    have w1 : (q_upd (q_upd (q_upd (q_upd m 122 (m 121 1).toNat a) 121 1 (m 121 1 + 1)) 154 (m 121 1).toNat a) 131 33 (m 121 1 + 1)) 121 1 = m 121 1 + 1 := by rw [z_un (by omega), z_un (by omega), z_ue rfl rfl]
    have w2 : (q_upd (q_upd (q_upd (q_upd m 122 (m 121 1).toNat a) 121 1 (m 121 1 + 1)) 154 (m 121 1).toNat a) 131 33 (m 121 1 + 1)) 131 33 = m 121 1 + 1 := z_ue rfl rfl
    have w3 : (q_upd (q_upd (q_upd (q_upd m 122 (m 121 1).toNat a) 121 1 (m 121 1 + 1)) 154 (m 121 1).toNat a) 131 33 (m 121 1 + 1)) 122 (m 121 1).toNat = a := by rw [z_un (by omega), z_un (by omega), z_un (by omega), z_ue rfl rfl]
    have w4 : (q_upd (q_upd (q_upd (q_upd m 122 (m 121 1).toNat a) 121 1 (m 121 1 + 1)) 154 (m 121 1).toNat a) 131 33 (m 121 1 + 1)) 154 (m 121 1).toNat = a := by rw [z_un (by omega), z_ue rfl rfl]
    generalize (q_upd (q_upd (q_upd (q_upd m 122 (m 121 1).toNat a) 121 1 (m 121 1 + 1)) 154 (m 121 1).toNat a) 131 33 (m 121 1 + 1)) = m4 at F w1 w2 w3 w4
    clear no e33
    have hW' : i_W m4 g.2.1 := i_W_of (fun a j _ => F a j (by omega) (by omega) (by omega)) hW
    clear hvp
    refine ⟨hg, i_Sc_of (fun j => F 1001 j (by omega) (by omega) (by omega)) hSc, i_D_of (fun a j _ _ => F a j (by omega) (by omega) (by omega)) hD, ⟨i_V_of (fun a j _ _ => F a j (by omega) (by omega) (by omega)) hV, i_T_of (fun a j _ _ => F a j (by omega) (by omega) (by omega)) hT, i_P_of (fun j => F 1002 j (by omega) (by omega) (by omega)) hP⟩, by show _ = _; rw [F 72 12 (by omega) (by omega) (by omega)]; exact hZ, i_R_of (fun a j _ => F a j (by omega) (by omega) (by omega)) hR, i_K_of (fun a j _ => F a j (by omega) (by omega) (by omega)) hK, i_St_of (fun a j _ => F a j (by omega) (by omega) (by omega)) hSt, i_L_of (fun a j _ => F a j (by omega) (by omega) (by omega)) hL, ⟨by omega, by omega, by omega, fun i hi => ?_⟩, hW', i_F_of (fun a j _ => F a j (by omega) (by omega) (by omega)) hF⟩
    by_cases hin : i = (m 121 1).toNat
    · rw [hin, w3, w4]; omega
    · rw [F 122 i (by omega) (by omega) (by omega), F 154 i (by omega) (by omega) (by omega)]; exact x4 i (by omega)
  · exact ⟨-4, m, g, rfl, rfl, fun _ => rfl, rfl, y_268 (n_isIn ha (by unfold z_ok; omega) (by unfold z_ok; omega) (fun _ _ => y_268_4 ⟨(by unfold z_ok; omega), fun _ => ⟨(by unfold z_ok2; omega), (fun h => absurd h (by omega)), fun _ => p_m rfl hI⟩, (fun h => absurd h (by omega))⟩) (fun h => absurd ⟨h0, h1⟩ h))⟩
