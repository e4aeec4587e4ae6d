/-! PAIRS: back, image, restore -/
theorem I_cell0 {L : Nat} {m m4 : z_M} {g : z_g} {k : Int} (hI : I L m g) (k0 : 0 ≤ k) (k1 : k < 9) (F : ∀ a j, ¬ z_sts a j → ¬ (a = 131 ∧ j = 1) → ¬ (a = 1 ∧ j = 0) → m4 a j = m a j) (e10 : m4 1 0 = k) (e11 : m4 131 1 = k) (hst : i_St m4) : I L m4 g := by
  have hh := hI
  obtain ⟨hg, hSc, hD, ⟨hV, hT, hP⟩, hZ, hR, hK, hSt, hL, hX, hW, hF⟩ := hh
  unfold z_sts at F
  refine I_gen hI (fun a j h => F a j (by unfold z_chg z_sts at h; omega) (by unfold z_chg at h; omega) (by unfold z_chg at h; omega)) ?_ (i_T_of (fun a j _ _ => F a j (by omega) (by omega) (by omega)) hT) (by show _ = _; rw [F 72 12 (by omega) (by omega) (by omega)]; exact hZ) ?_ hst
  · obtain ⟨g1, g2, g3, g4, g5, g6, g7⟩ := hV
    unfold i_V
    rw [e10, F 1 1 (by omega) (by omega) (by omega), F 1 3 (by omega) (by omega) (by omega), F 1 8 (by omega) (by omega) (by omega)]
    refine ⟨⟨k0, k1⟩, g2, g3, g4, fun i hi => ?_, fun t ht => ?_, fun i hi => ?_⟩
    · rw [F 2 i (by omega) (by omega) (by omega)]; exact g5 i hi
    · rw [F 3 t (by omega) (by omega) (by omega), F 4 t (by omega) (by omega) (by omega), F 5 t (by omega) (by omega) (by omega)]
      obtain ⟨k1, k2, k3, k4, k5, k6, k7⟩ := g6 t ht
      refine ⟨k1, k2, k3, k4, k5, k6, fun i hi => ?_⟩
      rw [F (7 + t) i (by omega) (by omega) (by omega)]; exact k7 i hi
    · rw [F 13 i (by omega) (by omega) (by omega), F 14 i (by omega) (by omega) (by omega)]; exact g7 i hi
  · obtain ⟨⟨a1, a2, a3, a4⟩, b, c, d, e⟩ := hR
    refine ⟨⟨?_, ?_, ?_, ?_⟩, fun i hi => ?_, fun s k hs hk => ?_, fun i hi => ?_, fun j hj => ?_⟩
    · rw [e10, e11]
    · rw [F 131 3 (by omega) (by omega) (by omega), F 1 1 (by omega) (by omega) (by omega)]; exact a2
    · rw [F 131 8 (by omega) (by omega) (by omega), F 1 3 (by omega) (by omega) (by omega)]; exact a3
    · rw [F 131 28 (by omega) (by omega) (by omega), F 1 8 (by omega) (by omega) (by omega)]; exact a4
    · rw [F 133 i (by omega) (by omega) (by omega), F 134 i (by omega) (by omega) (by omega), F 135 i (by omega) (by omega) (by omega), F 136 i (by omega) (by omega) (by omega), F 2 i (by omega) (by omega) (by omega), F 3 i (by omega) (by omega) (by omega), F 4 i (by omega) (by omega) (by omega), F 5 i (by omega) (by omega) (by omega)]; exact b i hi
    · rw [F 137 _ (by omega) (by omega) (by omega), F (7 + s) k (by omega) (by omega) (by omega)]; exact c s k hs hk
    · rw [F 151 i (by omega) (by omega) (by omega), F 152 i (by omega) (by omega) (by omega), F 13 i (by omega) (by omega) (by omega), F 14 i (by omega) (by omega) (by omega)]; exact d i hi
    · rw [F 132 j (by omega) (by omega) (by omega)]; exact e j hj
theorem I_cell1 {L : Nat} {m m4 : z_M} {g : z_g} {s e w : Int} (hI : I L m g) (h0 : 0 ≤ s) (h1 : s < m 1 3) (h2 : 0 ≤ e) (h3 : e ≤ 12) (w0 : 0 ≤ w) (w1 : w ≤ 99) (F : ∀ a j, ¬ z_sts a j → ¬ (a = 137 ∧ j = (13 * s + e).toNat) → ¬ (a = 7 + s.toNat ∧ j = e.toNat) → m4 a j = m a j) (en : m4 (7 + s.toNat) e.toNat = w) (en' : m4 137 (13 * s + e).toNat = w) (hst : i_St m4) : I L m4 g := by
  have hh := hI
  obtain ⟨hg, hSc, hD, ⟨hV, hT, hP⟩, hZ, hR, hK, hSt, hL, hX, hW, hF⟩ := hh
  have v3 := hV.2.2.1
  unfold z_sts at F
  refine I_gen hI (fun a j h => F a j (by unfold z_chg z_sts at h; omega) (by unfold z_chg at h; omega) (by unfold z_chg at h; omega)) ?_ (i_T_of (fun a j _ _ => F a j (by omega) (by omega) (by omega)) hT) (by show _ = _; rw [F 72 12 (by omega) (by omega) (by omega)]; exact hZ) ?_ hst
  · obtain ⟨g1, g2, g3, g4, g5, g6, g7⟩ := hV
    unfold i_V
    rw [F 1 0 (by omega) (by omega) (by omega), F 1 1 (by omega) (by omega) (by omega), F 1 3 (by omega) (by omega) (by omega), F 1 8 (by omega) (by omega) (by omega)]
    refine ⟨g1, g2, g3, g4, fun i hi => ?_, fun t ht => ?_, fun i hi => ?_⟩
    · rw [F 2 i (by omega) (by omega) (by omega)]; exact g5 i hi
    · rw [F 3 t (by omega) (by omega) (by omega), F 4 t (by omega) (by omega) (by omega), F 5 t (by omega) (by omega) (by omega)]
      obtain ⟨k1, k2, k3, k4, k5, k6, k7⟩ := g6 t ht
      refine ⟨k1, k2, k3, k4, k5, k6, fun i hi => ?_⟩
      by_cases hti : t = s.toNat ∧ i = e.toNat
      · rw [hti.1, hti.2, en]; omega
      · rw [F (7 + t) i (by omega) (by omega) (by omega)]; exact k7 i hi
    · rw [F 13 i (by omega) (by omega) (by omega), F 14 i (by omega) (by omega) (by omega)]; exact g7 i hi
  · obtain ⟨⟨a1, a2, a3, a4⟩, b, c, d, e'⟩ := hR
    refine ⟨⟨?_, ?_, ?_, ?_⟩, fun i hi => ?_, fun t k ht hk => ?_, fun i hi => ?_, fun j hj => ?_⟩
    · rw [F 131 1 (by omega) (by omega) (by omega), F 1 0 (by omega) (by omega) (by omega)]; exact a1
    · rw [F 131 3 (by omega) (by omega) (by omega), F 1 1 (by omega) (by omega) (by omega)]; exact a2
    · rw [F 131 8 (by omega) (by omega) (by omega), F 1 3 (by omega) (by omega) (by omega)]; exact a3
    · rw [F 131 28 (by omega) (by omega) (by omega), F 1 8 (by omega) (by omega) (by omega)]; exact a4
    · rw [F 133 i (by omega) (by omega) (by omega), F 134 i (by omega) (by omega) (by omega), F 135 i (by omega) (by omega) (by omega), F 136 i (by omega) (by omega) (by omega), F 2 i (by omega) (by omega) (by omega), F 3 i (by omega) (by omega) (by omega), F 4 i (by omega) (by omega) (by omega), F 5 i (by omega) (by omega) (by omega)]; exact b i hi
    · by_cases hti : t = s.toNat ∧ k = e.toNat
      · rw [hti.1, hti.2, en, show 13 * s.toNat + e.toNat = (13 * s + e).toNat by omega]; exact en'
      · rw [F 137 _ (by omega) (by omega) (by omega), F (7 + t) k (by omega) (by omega) (by omega)]; exact c t k ht hk
    · rw [F 151 i (by omega) (by omega) (by omega), F 152 i (by omega) (by omega) (by omega), F 13 i (by omega) (by omega) (by omega), F 14 i (by omega) (by omega) (by omega)]; exact d i hi
    · rw [F 132 j (by omega) (by omega) (by omega)]; exact e' j hj
theorem I_cell2 {L : Nat} {m m4 : z_M} {g : z_g} {s k f : Int} (hI : I L m g) (h0 : 0 ≤ s) (h1 : s < m 1 3) (hk6 : 0 ≤ k ∧ k < 6) (hf9 : 0 ≤ f ∧ f ≤ 9) (F : ∀ a j, ¬ z_sts a j → ¬ ((a = 4 ∨ a = 5 ∨ a = 135 ∨ a = 136) ∧ j = s.toNat) → m4 a j = m a j) (n1 : m4 4 s.toNat = k) (n2 : m4 5 s.toNat = f) (n3 : m4 135 s.toNat = k) (n4 : m4 136 s.toNat = f) (hst : i_St m4) : I L m4 g := by
  have hh := hI
  obtain ⟨hg, hSc, hD, ⟨hV, hT, hP⟩, hZ, hR, hK, hSt, hL, hX, hW, hF⟩ := hh
  have v3 := hV.2.2.1
  obtain ⟨t1, t2, t3, t4, t5, t6, t7⟩ := hV.2.2.2.2.2.1 s.toNat (by omega)
  unfold z_sts at F
  refine I_gen hI (fun a j h => F a j (by unfold z_chg z_sts at h; omega) (by unfold z_chg at h; omega)) ?_ (i_T_of (fun a j _ _ => F a j (by omega) (by omega)) hT) (by show _ = _; rw [F 72 12 (by omega) (by omega)]; exact hZ) ?_ hst
  · obtain ⟨g1, g2, g3, g4, g5, g6, g7⟩ := hV
    unfold i_V
    rw [F 1 0 (by omega) (by omega), F 1 1 (by omega) (by omega), F 1 3 (by omega) (by omega), F 1 8 (by omega) (by omega)]
    refine ⟨g1, g2, g3, g4, fun i hi => ?_, fun t ht => ?_, fun i hi => ?_⟩
    · rw [F 2 i (by omega) (by omega)]; exact g5 i hi
    · have k7 := (g6 t ht).2.2.2.2.2.2
      rw [F 3 t (by omega) (by omega)]
      by_cases hti : t = s.toNat
      · rw [hti, n1, n2]
        refine ⟨t1, t2, hk6.1, by omega, hf9.1, hf9.2, fun i hi => ?_⟩
        rw [F _ i (by omega) (by omega)]; exact t7 i hi
      · obtain ⟨k1, k2, k3, k4, k5, k6, -⟩ := g6 t ht
        rw [F 4 t (by omega) (by omega), F 5 t (by omega) (by omega)]
        refine ⟨k1, k2, k3, k4, k5, k6, fun i hi => ?_⟩
        rw [F (7 + t) i (by omega) (by omega)]; exact k7 i hi
    · rw [F 13 i (by omega) (by omega), F 14 i (by omega) (by omega)]; exact g7 i hi
  · obtain ⟨⟨a1, a2, a3, a4⟩, b, c, d, e'⟩ := hR
    refine ⟨⟨?_, ?_, ?_, ?_⟩, fun i hi => ?_, fun t k ht hk => ?_, fun i hi => ?_, fun j hj => ?_⟩
    · rw [F 131 1 (by omega) (by omega), F 1 0 (by omega) (by omega)]; exact a1
    · rw [F 131 3 (by omega) (by omega), F 1 1 (by omega) (by omega)]; exact a2
    · rw [F 131 8 (by omega) (by omega), F 1 3 (by omega) (by omega)]; exact a3
    · rw [F 131 28 (by omega) (by omega), F 1 8 (by omega) (by omega)]; exact a4
    · rw [F 133 i (by omega) (by omega), F 134 i (by omega) (by omega), F 2 i (by omega) (by omega), F 3 i (by omega) (by omega)]
      by_cases hti : i = s.toNat
      · rw [hti, n1, n2, n3, n4]; exact ⟨(b _ (by omega)).1, (b _ (by omega)).2.1, rfl, rfl⟩
      · rw [F 135 i (by omega) (by omega), F 136 i (by omega) (by omega), F 4 i (by omega) (by omega), F 5 i (by omega) (by omega)]; exact b i hi
    · rw [F 137 _ (by omega) (by omega), F (7 + t) k (by omega) (by omega)]; exact c t k ht hk
    · rw [F 151 i (by omega) (by omega), F 152 i (by omega) (by omega), F 13 i (by omega) (by omega), F 14 i (by omega) (by omega)]; exact d i hi
    · rw [F 132 j (by omega) (by omega)]; exact e' j hj
/-- the steps without the last -/
theorem i_St_pop {m m4 : z_M} {n : Int} (h : i_St m) (hn : m 109 0 = n) (n1 : 1 ≤ n) (w1 : m4 109 0 = n - 1) (w2 : m4 131 41 = n - 1) (f : ∀ a j, (110 ≤ a ∧ a ≤ 113) ∨ (158 ≤ a ∧ a ≤ 160) ∨ (a = 1 ∧ j = 3) ∨ a = 2 ∨ a = 3 → m4 a j = m a j) : i_St m4 := by
  obtain ⟨h1, h2, h3, h4⟩ := h
  exact ⟨by omega, by omega, by omega, fun i hi => i_stp_of f (h4 i (by omega))⟩
theorem p_back {L : Nat} {m : z_M} {g : z_g} (hI : I L m g) : z_pI (I L) 176 284 [] m g := by
  have hh := hI
  obtain ⟨hg, hSc, hD, ⟨hV, hT, hP⟩, hZ, hR, hK, hSt, hL, hX, hW, hF⟩ := hh
  have hc0 := hSt.1
  have hc8 := hSt.2.1
  have h41 := hSt.2.2.1
  have v3 := hV.2.2.1
  refine y_176 ⟨(by unfold z_ok2; omega), fun hge => ?_, fun h => ⟨-3, m, g, rfl, rfl, fun _ => rfl, rfl, y_284 ⟨(by unfold z_ok; omega), fun h2 => absurd (by omega) h2, fun _ => p_m rfl hI⟩⟩⟩
  have hs := hSt.2.2.2 (m 109 0 - 1).toNat (by omega)
  have pop := fun (m4 : z_M) => i_St_pop (m4 := m4) hSt rfl hge
  have hc : m 109 0 = m 109 0 := rfl
  generalize ec : m 109 0 = c at *
  rcases hs with ⟨s1, s2, s3, s4, s5⟩ | ⟨s1, s2, s3, s4, s5, s6, s7, s8, s9, s10⟩ | ⟨s1, s2, s3, s4, s5, s6, s7, s8, s9, s10⟩
  · refine ⟨⟨by omega, by omega⟩, ⟨by omega, by omega⟩, ⟨by omega, by omega⟩, ⟨by omega, by omega⟩, (by unfold z_ok; omega), fun h => absurd s1 h, fun _ => ⟨c - 1, _, g, rfl, rfl, fun j => by rw [z_un (by omega), z_un (by omega)], rfl, ?_⟩⟩
    refine y_284 ?_
    rw [show (q_upd (q_upd m 1 0 (m 111 (c - 1).toNat)) 109 0 (c - 1)) 131 41 = c by rw [z_un (by omega), z_un (by omega)]; exact h41]
    rw [show (q_upd (q_upd m 1 0 (m 111 (c - 1).toNat)) 109 0 (c - 1)) 158 (c - 1).toNat = -1 by rw [z_un (by omega), z_un (by omega)]; exact s4]
    rw [show (q_upd (q_upd m 1 0 (m 111 (c - 1).toNat)) 109 0 (c - 1)) 160 (c - 1).toNat = m 111 (c - 1).toNat by rw [z_un (by omega), z_un (by omega)]; exact s5]
    refine ⟨(by unfold z_ok; omega), fun _ => ⟨⟨by omega, by omega⟩, ⟨by omega, by omega⟩, (by unfold z_ok2; omega), fun h => absurd rfl h, fun _ => p_m rfl ?_⟩, fun h => absurd h (by omega)⟩
    refine I_cell0 hI s2 s3 (fun a j h1 h2 h3 => by unfold z_sts at h1; rw [z_un (by omega), z_un (by omega), z_un (by omega), z_un (by omega)]) (by rw [z_un (by omega), z_un (by omega), z_un (by omega), z_ue rfl rfl]) (z_ue rfl rfl) (pop _ (by rw [z_un (by omega), z_un (by omega), z_ue rfl rfl]) (by rw [z_un (by omega), z_ue rfl rfl]) (fun a j h => by rw [z_un (by omega), z_un (by omega), z_un (by omega), z_un (by omega)]))
  · refine ⟨⟨by omega, by omega⟩, ⟨by omega, by omega⟩, ⟨by omega, by omega⟩, ⟨by omega, by omega⟩, (by unfold z_ok; omega), fun _ => ⟨⟨by omega, by omega⟩, (by unfold z_ok2; omega), fun h => absurd s1 h, fun _ => ?_⟩, fun h => absurd h (by omega)⟩
    refine c_isExponentOf (by unfold z_ok; omega) (by unfold z_ok; omega) hV (fun _ => y_176_53 ⟨(by unfold z_ok; omega), (fun h => absurd h (by omega)), fun _ => ⟨z_rw6 s2 (by omega), z_sp6 (by omega), ⟨by omega, by omega⟩, c - 1, _, g, rfl, rfl, fun j => by rw [z_un (by omega), z_un (by omega)], rfl, ?_⟩⟩) (fun hno => absurd ⟨⟨s2, s3⟩, s4, s5, s6⟩ hno)
    have f1 : ∀ a j, ¬ (a = 109 ∧ j = 0) → ¬ (a = 7 + (m 111 (c - 1).toNat).toNat ∧ j = (m 112 (c - 1).toNat).toNat) → (q_upd (q_upd m (7 + (m 111 (c - 1).toNat).toNat) (m 112 (c - 1).toNat).toNat (m 113 (c - 1).toNat)) 109 0 (c - 1)) a j = m a j := fun a j h1 h2 => by rw [z_un h1, z_un h2]
    have u1 : (q_upd (q_upd m (7 + (m 111 (c - 1).toNat).toNat) (m 112 (c - 1).toNat).toNat (m 113 (c - 1).toNat)) 109 0 (c - 1)) 109 0 = c - 1 := z_ue rfl rfl
    have u2 : (q_upd (q_upd m (7 + (m 111 (c - 1).toNat).toNat) (m 112 (c - 1).toNat).toNat (m 113 (c - 1).toNat)) 109 0 (c - 1)) (7 + (m 111 (c - 1).toNat).toNat) (m 112 (c - 1).toNat).toNat = m 113 (c - 1).toNat := by rw [z_un (by omega), z_ue rfl rfl]
    generalize (q_upd (q_upd m (7 + (m 111 (c - 1).toNat).toNat) (m 112 (c - 1).toNat).toNat (m 113 (c - 1).toNat)) 109 0 (c - 1)) = m1 at f1 u1 u2
    refine y_284 ?_
    rw [show m1 131 41 = c by rw [f1 131 41 (by omega) (by omega)]; exact h41]
    rw [show m1 158 (c - 1).toNat = 13 * m 111 (c - 1).toNat + m 112 (c - 1).toNat by rw [f1 158 _ (by omega) (by omega)]; exact s9]
    rw [show m1 160 (c - 1).toNat = m 113 (c - 1).toNat by rw [f1 160 _ (by omega) (by omega)]; exact s10]
    refine ⟨(by unfold z_ok; omega), fun _ => ⟨⟨by omega, by omega⟩, ⟨by omega, by omega⟩, (by unfold z_ok2; omega), fun _ => ⟨⟨by omega, by omega⟩, (by unfold z_ok2; omega), fun _ => ⟨⟨by omega, by omega⟩, ⟨by omega, by omega⟩, p_m rfl ?_⟩, fun h => absurd h (by omega)⟩, fun h => absurd h (by omega)⟩, fun h => absurd h (by omega)⟩
    exact I_cell1 hI s2 s3 s4 s5 s7 s8 (fun a j h1 h2 h3 => by unfold z_sts at h1; rw [z_un (by omega), z_un (by omega), f1 a j (by omega) (by omega)]) (by rw [z_un (by omega), z_un (by omega)]; exact u2) (z_ue rfl rfl) (pop _ (by rw [z_un (by omega), z_un (by omega)]; exact u1) (by rw [z_un (by omega), z_ue rfl rfl]) (fun a j h => by rw [z_un (by omega), z_un (by omega), f1 a j (by omega) (by omega)]))
  · refine ⟨⟨by omega, by omega⟩, ⟨by omega, by omega⟩, ⟨by omega, by omega⟩, ⟨by omega, by omega⟩, (by unfold z_ok; omega), fun _ => ⟨⟨by omega, by omega⟩, (by unfold z_ok2; omega), fun _ => ⟨⟨by omega, by omega⟩, (by unfold z_ok2; omega), fun h => absurd s1 h, fun _ => ?_⟩, fun h => absurd h (by omega)⟩, fun h => absurd h (by omega)⟩
    refine c_isSumB (by unfold z_ok; omega) hV (fun _ _ => y_176_73 ⟨(by unfold z_ok; omega), (fun h => absurd h (by omega)), fun _ => ⟨⟨by omega, by omega⟩, ⟨by omega, by omega⟩, c - 1, _, g, rfl, rfl, fun j => by rw [z_un (by omega), z_un (by omega), z_un (by omega)], rfl, ?_⟩⟩) (fun hno => absurd ⟨s2, s3⟩ hno)
    have f1 : ∀ a j, ¬ (a = 109 ∧ j = 0) → ¬ ((a = 4 ∨ a = 5) ∧ j = (m 111 (c - 1).toNat).toNat) → (q_upd (q_upd (q_upd m 4 (m 111 (c - 1).toNat).toNat (m 112 (c - 1).toNat)) 5 (m 111 (c - 1).toNat).toNat (m 113 (c - 1).toNat)) 109 0 (c - 1)) a j = m a j := fun a j h1 h2 => by rw [z_un h1, z_un (by omega), z_un (by omega)]
    have u1 : (q_upd (q_upd (q_upd m 4 (m 111 (c - 1).toNat).toNat (m 112 (c - 1).toNat)) 5 (m 111 (c - 1).toNat).toNat (m 113 (c - 1).toNat)) 109 0 (c - 1)) 109 0 = c - 1 := z_ue rfl rfl
    have u2 : (q_upd (q_upd (q_upd m 4 (m 111 (c - 1).toNat).toNat (m 112 (c - 1).toNat)) 5 (m 111 (c - 1).toNat).toNat (m 113 (c - 1).toNat)) 109 0 (c - 1)) 4 (m 111 (c - 1).toNat).toNat = m 112 (c - 1).toNat := by rw [z_un (by omega), z_un (by omega), z_ue rfl rfl]
    have u3 : (q_upd (q_upd (q_upd m 4 (m 111 (c - 1).toNat).toNat (m 112 (c - 1).toNat)) 5 (m 111 (c - 1).toNat).toNat (m 113 (c - 1).toNat)) 109 0 (c - 1)) 5 (m 111 (c - 1).toNat).toNat = m 113 (c - 1).toNat := by rw [z_un (by omega), z_ue rfl rfl]
    generalize (q_upd (q_upd (q_upd m 4 (m 111 (c - 1).toNat).toNat (m 112 (c - 1).toNat)) 5 (m 111 (c - 1).toNat).toNat (m 113 (c - 1).toNat)) 109 0 (c - 1)) = m1 at f1 u1 u2 u3
    refine y_284 ?_
    rw [show m1 131 41 = c by rw [f1 131 41 (by omega) (by omega)]; exact h41]
    rw [show m1 158 (c - 1).toNat = -2 by rw [f1 158 _ (by omega) (by omega)]; exact s8]
    rw [show m1 159 (c - 1).toNat = m 111 (c - 1).toNat by rw [f1 159 _ (by omega) (by omega)]; exact s9]
    rw [show m1 160 (c - 1).toNat = 10 * m 112 (c - 1).toNat + m 113 (c - 1).toNat by rw [f1 160 _ (by omega) (by omega)]; exact s10]
    refine ⟨(by unfold z_ok; omega), fun _ => ⟨⟨by omega, by omega⟩, ⟨by omega, by omega⟩, (by unfold z_ok2; omega), fun _ => ⟨⟨by omega, by omega⟩, (by unfold z_ok2; omega), fun h => absurd rfl h, fun _ => ⟨⟨by omega, by omega⟩, (by unfold z_dv; omega), ⟨by omega, by omega⟩, ⟨by omega, by omega⟩, (by unfold z_dv; omega), ⟨by omega, by omega⟩, p_m rfl ?_⟩⟩, fun h => absurd h (by omega)⟩, fun h => absurd h (by omega)⟩
    rw [show (10 * m 112 (c - 1).toNat + m 113 (c - 1).toNat) / 10 = m 112 (c - 1).toNat by omega, show (10 * m 112 (c - 1).toNat + m 113 (c - 1).toNat) % 10 = m 113 (c - 1).toNat by omega]
    exact I_cell2 hI s2 s3 ⟨s4, by omega⟩ ⟨s6, s7⟩ (fun a j h1 h2 => by unfold z_sts at h1; rw [z_un (by omega), z_un (by omega), z_un (by omega), f1 a j (by omega) (by omega)]) (by rw [z_un (by omega), z_un (by omega), z_un (by omega)]; exact u2) (by rw [z_un (by omega), z_un (by omega), z_un (by omega)]; exact u3) (by rw [z_un (by omega), z_ue rfl rfl]) (z_ue rfl rfl) (pop _ (by rw [z_un (by omega), z_un (by omega), z_un (by omega)]; exact u1) (by rw [z_un (by omega), z_un (by omega), z_ue rfl rfl]) (fun a j h => by rw [z_un (by omega), z_un (by omega), z_un (by omega), f1 a j (by omega) (by omega)]))
