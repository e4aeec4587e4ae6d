/-! PAIRS: lots, the pair -/
theorem n_lots {m m1 : z_M} {g : z_g} {Q : q_V → q_S → Prop} {s n a : Int} (hV : i_V m) (hR : i_R m) (f : c_Q m m1) (h0 : 0 ≤ s) (h1 : s < m 1 3) (n1 : 1 ≤ n) (n40 : n ≤ 40) (kk : ∀ m' a' c, n_Q m1 m' → l_R m s n.toNat a a' c → Q (.inl c) (z_st m' g)) : z_T 267 10 [.inr (.inr 131), .inl s, .inl n, .inl a, q_dead, q_dead, q_dead, q_dead] [.inl 1] (z_st m1 g) Q := by
  have hp := s_p_pr hV
  have hp5 := z_pr_le hp
  have v3 := hV.2.2.1
  have hS := I_nS hV hR h0 h1 (c_Q_fr f)
  have hSV := hS.2.2.2.2.1
  have hP := hS.1
  have s8 := hSV.1
  -- the row put away
  have save : ∀ (d k : Nat) (ki : Int) (m2 : z_M), 13 - k = d → ki = (k : Int) → k ≤ 13 → (∀ x j, ¬ x = 153 → m2 x j = m1 x j) → (∀ i, i < k → m2 153 i = m1 137 (13 * s.toNat + i)) → (∀ m3, (∀ x j, ¬ x = 153 → m3 x j = m1 x j) → (∀ i, i < 13 → m3 153 i = m1 137 (13 * s.toNat + i)) → z_T 267 38 [.inr (.inr 131), .inl s, .inl n, .inl a, .inl a, .inl 0, .inl 0, q_dead] [] (z_st m3 g) Q) → z_T 267 15 [.inr (.inr 131), .inl s, .inl n, .inl a, .inl ki, q_dead, q_dead, q_dead] [] (z_st m2 g) Q := by
    intro d
    induction d with
    | zero =>
      intro k ki m2 hd hki hkn q1 q2 k3
      exact y_267_15 ⟨(by unfold z_ok2; omega), fun _ => k3 m2 q1 (fun i hi => q2 i (by omega)), (fun h => absurd h (by omega))⟩
    | succ d ih =>
      intro k ki m2 hd hki hkn q1 q2 k3
      refine y_267_15 ⟨(by unfold z_ok2; omega), (fun h => absurd h (by omega)), fun _ => ⟨⟨by omega, by omega⟩, ⟨by omega, by omega⟩, ih (k + 1) (ki + 1) _ (by omega) (by omega) (by omega) (fun x j h => by rw [z_un (by omega)]; exact q1 x j h) (fun i hi => ?_) k3⟩⟩
      by_cases hik : i = k
      · rw [z_ue rfl (by omega), q1 137 _ (by omega), show (13 * s + ki).toNat = 13 * s.toNat + i by omega]
      · rw [z_un (by omega)]; exact q2 i (by omega)
  refine y_267_10 ⟨(by unfold z_ok; omega), fun _ => save 13 0 0 m1 rfl rfl (by omega) (fun _ _ _ => rfl) (fun i hi => absurd hi (by omega)) fun m2 f2 r2 => ?_, (fun h => absurd h (by omega))⟩
  -- the row put back
  have back : ∀ (d k : Nat) (ki b c : Int) (m3 : z_M) (da7 : q_V), 13 - k = d → ki = (k : Int) → k ≤ 13 → (∀ x j, ¬ x = 138 → ¬ x = 153 → ¬ (x = 137 ∧ 13 * s.toNat ≤ j ∧ j < 13 * s.toNat + 13) → m3 x j = m1 x j) → (∀ i, i < 13 → m3 153 i = m1 137 (13 * s.toNat + i)) → (∀ i, i < k → m3 137 (13 * s.toNat + i) = m1 137 (13 * s.toNat + i)) → l_R m s n.toNat a b c → z_T 267 93 [.inr (.inr 131), .inl s, .inl n, .inl a, .inl b, .inl c, .inl ki, da7] [] (z_st m3 g) Q := by
    intro d
    induction d with
    | zero =>
      intro k ki b c m3 da7 hd hki hkn q1 q2 q3 hr
      refine y_267_93 ⟨(by unfold z_ok2; omega), fun _ => kk m3 b c (fun x j hh => ?_) hr, (fun h => absurd h (by omega))⟩
      by_cases hx : x = 137 ∧ 13 * s.toNat ≤ j ∧ j < 13 * s.toNat + 13
      · have := q3 (j - 13 * s.toNat) (by omega)
        rw [show 13 * s.toNat + (j - 13 * s.toNat) = j by omega] at this
        rw [hx.1]; exact this
      · exact q1 x j (by omega) (by omega) hx
    | succ d ih =>
      intro k ki b c m3 da7 hd hki hkn q1 q2 q3 hr
      have ek : (13 * s + ki).toNat = 13 * s.toNat + k := by omega
      refine y_267_93 ⟨(by unfold z_ok2; omega), (fun h => absurd h (by omega)), fun _ => ⟨⟨by omega, by omega⟩, ⟨by omega, by omega⟩, ih (k + 1) (ki + 1) b c _ _ (by omega) (by omega) (by omega) (fun x j h2 h3 h4 => by rw [z_un (by omega)]; exact q1 x j h2 h3 h4) (fun i hi => by rw [z_un (by omega)]; exact q2 i hi) (fun i hi => ?_) hr⟩⟩
      by_cases hik : i = k
      · rw [z_ue rfl (by omega), show ki.toNat = i by omega]; exact q2 i (by omega)
      · rw [z_un (by omega)]; exact q3 i (by omega)
  have outer : ∀ (d t : Nat) (ti b c : Int) (m3 : z_M) (da7 : q_V), n.toNat - t = d → ti = (t : Int) → t ≤ n.toNat → (∀ x j, ¬ x = 138 → ¬ x = 153 → ¬ (x = 137 ∧ 13 * s.toNat ≤ j ∧ j < 13 * s.toNat + 13) → m3 x j = m1 x j) → (∀ i, i < 13 → m3 153 i = m1 137 (13 * s.toNat + i)) → (∀ i, i < 13 → 0 ≤ m3 137 (13 * s.toNat + i) ∧ m3 137 (13 * s.toNat + i) ≤ 127) → l_R m s t a b c → z_T 267 38 [.inr (.inr 131), .inl s, .inl n, .inl a, .inl b, .inl c, .inl ti, da7] [] (z_st m3 g) Q := by
    intro d
    induction d with
    | zero =>
      intro t ti b c m3 da7 hd hti htn q1 q2 q3 hr
      have ht : t = n.toNat := by omega
      subst ht
      exact y_267_38 ⟨(by unfold z_ok2; omega), fun _ => back 13 0 0 b c m3 _ rfl rfl (by omega) q1 q2 (fun i hi => absurd hi (by omega)) hr, (fun h => absurd h (by omega))⟩
    | succ d ih =>
      intro t ti b c m3 da7 hd hti htn q1 q2 q3 hr
      have inner : ∀ (u e : Nat) (ei : Int) (m4 : z_M), 13 - e = u → ei = (e : Int) → e ≤ 13 → (∀ x j, ¬ x = 138 → ¬ x = 153 → ¬ (x = 137 ∧ 13 * s.toNat ≤ j ∧ j < 13 * s.toNat + 13) → m4 x j = m1 x j) → (∀ i, i < 13 → m4 153 i = m1 137 (13 * s.toNat + i)) → (∀ i, i < 13 → 0 ≤ m4 137 (13 * s.toNat + i) ∧ m4 137 (13 * s.toNat + i) ≤ 127) → (∀ i, i < e → (s_S m s).testBit i = true → m4 137 (13 * s.toNat + i) = l_dr (s_p m) b (x_pre (s_S m s) i).length) → z_T 267 43 [.inr (.inr 131), .inl s, .inl n, .inl a, .inl (l_sd b (x_pre (s_S m s) e).length), .inl c, .inl ti, .inl ei] [] (z_st m4 g) Q := by
        intro u
        induction u with
        | zero =>
          intro e ei m4 hu hei hen g1 g2 g3 g4
          have he : e = 13 := by omega
          subst he
          have hS4 : n_S m4 s (s_p m) (s_S m s) (m 4 s.toNat) (m 5 s.toNat) (fun i => m4 137 (13 * s.toNat + i)) := by
            obtain ⟨⟨p1, p2, p3, p4⟩, b1, b2, b3, b4, b5, b6, b7, b8, b9⟩ := hS
            refine ⟨⟨p1, by rw [g1 131 1 (by omega) (by omega) (by omega)]; exact p2, by rw [g1 131 1 (by omega) (by omega) (by omega)]; exact p3, by rw [g1 131 1 (by omega) (by omega) (by omega), g1 132 _ (by omega) (by omega) (by omega)]; exact p4⟩, b1, by rw [g1 134 _ (by omega) (by omega) (by omega)]; exact b2, by rw [g1 134 _ (by omega) (by omega) (by omega), g1 133 _ (by omega) (by omega) (by omega)]; exact b3, b4, by rw [g1 135 _ (by omega) (by omega) (by omega)]; exact b5, b6, by rw [g1 136 _ (by omega) (by omega) (by omega)]; exact b7, b8, fun i hi => ?_⟩
            rw [show (13 * s + (i : Int)).toNat = 13 * s.toNat + i by omega]
            exact ⟨rfl, g3 i (by omega)⟩
          have eN : n_at (s_p m) (s_S m s) (m 4 s.toNat) (m 5 s.toNat) (fun i => m4 137 (13 * s.toNat + i)) = l_NN m s b := by
            funext i
            unfold l_NN n_at
            by_cases hi : i ≤ 12 ∧ (s_S m s).testBit i = true
            · rw [if_pos hi, if_pos hi]
              show x_raw _ _ _ _ (m4 137 (13 * s.toNat + i)) % _ = _
              rw [g4 i (by omega) hi.2]
            · rw [if_neg hi, if_neg hi]
          refine y_267_43 ⟨(by unfold z_ok2; omega), fun _ => n_looks hS4 fun m5 f5 r5 => y_267_80 ?_, (fun h => absurd h (by omega))⟩
          rw [eN] at r5
          have h1' : ∀ x j, ¬ x = 138 → ¬ x = 153 → ¬ (x = 137 ∧ 13 * s.toNat ≤ j ∧ j < 13 * s.toNat + 13) → m5 x j = m1 x j := fun x j a1 a2 a3 => by rw [f5 x j a1, g1 x j a1 a2 a3]
          have hP5 : n_P m5 (s_p m) := ⟨hP.1, by rw [h1' 131 1 (by omega) (by omega) (by omega)]; exact hP.2.1, by rw [h1' 131 1 (by omega) (by omega) (by omega)]; exact hP.2.2.1, by rw [h1' 131 1 (by omega) (by omega) (by omega), h1' 132 _ (by omega) (by omega) (by omega)]; exact hP.2.2.2⟩
          have n2 : ∀ i, i < 13 → m5 153 i = m1 137 (13 * s.toNat + i) := fun i hi => by rw [f5 153 i (by omega)]; exact g2 i hi
          have n3 : ∀ i, i < 13 → 0 ≤ m5 137 (13 * s.toNat + i) ∧ m5 137 (13 * s.toNat + i) ≤ 127 := fun i hi => by rw [f5 137 _ (by omega)]; exact g3 i hi
          refine n_isDouble hP5 r5 (fun i _ => (n_at_N (S := s_S m s) (kd := m 4 s.toNat) (fg := m 5 s.toNat) hp).1 i) (fun hy => y_267_83 ⟨(by unfold z_ok; omega), (fun h => absurd h (by omega)), fun _ => ih (t + 1) (ti + 1) _ _ m5 _ (by omega) (by omega) (by omega) h1' n2 n3 ⟨b, c, hr, rfl, Or.inl ⟨hy, rfl⟩⟩⟩) (fun hn => y_267_83 ⟨(by unfold z_ok; omega), fun _ => ih (t + 1) (ti + 1) _ _ m5 _ (by omega) (by omega) (by omega) h1' n2 n3 ⟨b, c, hr, rfl, Or.inr ⟨hn, Int.add_zero _⟩⟩, (fun h => absurd h (by omega))⟩)
        | succ u ihu =>
          intro e ei m4 hu hei hen g1 g2 g3 g4
          have hS4 : n_P m4 (s_p m) ∧ 0 ≤ m4 134 s.toNat ∧ m4 134 s.toNat < 6 ∧ m4 133 (m4 134 s.toNat).toNat = (s_S m s : Int) := by
            obtain ⟨⟨p1, p2, p3, p4⟩, b1, b2, b3, b4, b5, b6, b7, b8, b9⟩ := hS
            refine ⟨⟨p1, by rw [g1 131 1 (by omega) (by omega) (by omega)]; exact p2, by rw [g1 131 1 (by omega) (by omega) (by omega)]; exact p3, by rw [g1 131 1 (by omega) (by omega) (by omega), g1 132 _ (by omega) (by omega) (by omega)]; exact p4⟩, by rw [g1 134 _ (by omega) (by omega) (by omega)]; exact b2.1, by rw [g1 134 _ (by omega) (by omega) (by omega)]; exact b2.2, by rw [g1 134 _ (by omega) (by omega) (by omega), g1 133 _ (by omega) (by omega) (by omega)]; exact b3⟩
          have hSf : n_S m4 s (s_p m) (s_S m s) (m 4 s.toNat) (m 5 s.toNat) (fun i => m4 137 (13 * s.toNat + i)) := by
            obtain ⟨-, b1, b2, b3, b4, b5, b6, b7, b8, b9⟩ := hS
            refine ⟨hS4.1, b1, hS4.2.1 |> fun h => ⟨h, hS4.2.2.1⟩, hS4.2.2.2, b4, by rw [g1 135 _ (by omega) (by omega) (by omega)]; exact b5, b6, by rw [g1 136 _ (by omega) (by omega) (by omega)]; exact b7, b8, fun i hi => ?_⟩
            rw [show (13 * s + (i : Int)).toNat = 13 * s.toNat + i by omega]
            exact ⟨rfl, g3 i (by omega)⟩
          obtain ⟨b0, b1⟩ := q_and_31 (l_sd b (x_pre (s_S m s) e).length * 1103515245 + 12345)
          have ee : (13 * s + ei).toNat = 13 * s.toNat + e := by omega
          refine y_267_43 ⟨(by unfold z_ok2; omega), (fun h => absurd h (by omega)), fun _ => n_setOf hSf (y_267_49 (n_has (by omega) (by unfold z_ok; omega) (fun _ _ hb => y_267_51 ⟨(by unfold z_ok; omega), fun _ => ⟨⟨by omega, by omega, by omega, by omega⟩, n_p hS4.1 (y_267_73 ⟨⟨by omega, by omega, by omega, by omega⟩, ⟨by omega, by omega⟩, ?_⟩)⟩, (fun h => absurd h (by omega))⟩) (fun hno => y_267_51 ⟨(by unfold z_ok; omega), (fun h => absurd h (by omega)), fun _ => ?_⟩)))⟩
          · have hb : (s_S m s).testBit e = true := by rw [show e = ei.toNat by omega]; exact hb
            have el : (x_pre (s_S m s) (e + 1)).length = (x_pre (s_S m s) e).length + 1 := by rw [x_pre_t hb, List.length_append]; rfl
            have key := ihu (e + 1) (ei + 1)
            rw [el] at key
            have hm := z_m0 (p := s_p m) (a := q_bin 3 (l_sd b (x_pre (s_S m s) e).length * 1103515245 + 12345) 2147483647 / 65536) (by omega)
            refine key _ (by omega) (by omega) (by omega) (fun x j a1 a2 a3 => by rw [z_un (by omega)]; exact g1 x j a1 a2 a3) (fun i hi => by rw [z_un (by omega)]; exact g2 i hi) (fun i hi => ?_) (fun i hi hbi => ?_)
            · by_cases hie : i = e
              · rw [z_ue rfl (by omega)]; omega
              · rw [z_un (by omega)]; exact g3 i hi
            · by_cases hie : i = e
              · rw [z_ue rfl (by omega), hie]; rfl
              · rw [z_un (by omega)]; exact g4 i (by omega) hbi
          · have hb : ¬ (s_S m s).testBit e = true := fun h => hno ⟨by omega, by omega, by rw [show ei.toNat = e by omega]; exact h⟩
            have el : (x_pre (s_S m s) (e + 1)).length = (x_pre (s_S m s) e).length := by rw [x_pre_f hb]
            have key := ihu (e + 1) (ei + 1) m4
            rw [el] at key
            exact key (by omega) (by omega) (by omega) g1 g2 g3 (fun i hi hbi => g4 i (by
              by_cases hie : i = e
              · subst hie; exact absurd hbi hb
              · omega) hbi)
      exact y_267_38 ⟨(by unfold z_ok2; omega), (fun h => absurd h (by omega)), fun _ => inner 13 0 0 m3 rfl rfl (by omega) q1 q2 q3 (fun i hi => absurd hi (by omega))⟩
  refine outer n.toNat 0 0 a 0 m2 _ (by omega) rfl (by omega) (fun x j _ h3 _ => f2 x j h3) r2 (fun i hi => ?_) ⟨rfl, rfl⟩
  have := hS.2.2.2.2.2.2.2.2.2 i (by omega)
  rw [show (13 * s + (i : Int)).toNat = 13 * s.toNat + i by omega] at this
  rw [f2 137 _ (by omega), this.1]
  exact this.2
theorem p_lots {L : Nat} {m : z_M} {g : z_g} {s n a : Int} (hI : I L m g) (hs : z_ok s) (hn : z_ok n) : z_pI (I L) 139 267 [.inl s, .inl n, .inl a] m g := by
  have hC := hI.2.2.2.1
  have hZ := hI.2.2.2.2.1
  have hV := hC.1
  have hR := hI.2.2.2.2.2.1
  have v3 := hV.2.2.1
  have e8 : m 131 8 = m 1 3 := hR.1.2.2.1
  have q0 := c_Q_refl hC.2.1 hZ
  have hn' := hn
  unfold z_ok at hn'
  refine y_139 (c_isSumB hs hV (fun h0 h1 => ?_) (fun hno => y_139_3 ⟨(by unfold z_ok; omega), (fun h => absurd h (by omega)), fun _ => ⟨-1, m, g, rfl, rfl, fun _ => rfl, rfl, y_267 (n_isSum hs e8 v3 (fun h0 h1 => absurd ⟨h0, h1⟩ hno) (fun _ => y_267_3 ⟨(by unfold z_ok; omega), (fun h => absurd h (by omega)), fun _ => p_m rfl hI⟩))⟩⟩))
  have mod : ∀ (m1 : z_M) (Q : q_V → q_S → Prop), c_Q m m1 → (1 ≤ n → n ≤ 40 → z_T 267 10 [.inr (.inr 131), .inl s, .inl n, .inl a, q_dead, q_dead, q_dead, q_dead] [.inl 1] (z_st m1 g) Q) → (¬ (1 ≤ n ∧ n ≤ 40) → Q (.inl (-2)) (z_st m1 g)) → z_C 267 [.inr (.inr 131), .inl s, .inl n, .inl a] (z_st m1 g) Q := fun m1 Q f k1 k0 =>
    y_267 (n_isSum hs (by rw [f.1 131 8 (by omega)]; exact e8) v3 (fun _ _ => y_267_3 ⟨(by unfold z_ok; omega), fun _ => n_isIn hn (by unfold z_ok; omega) (by unfold z_ok; omega) (fun w0 w1 => k1 w0 w1) (fun hno => y_267_10 ⟨(by unfold z_ok; omega), (fun h => absurd h (by omega)), fun _ => k0 hno⟩), (fun h => absurd h (by omega))⟩) (fun h => absurd ⟨h0, h1⟩ h))
  by_cases hn40 : 1 ≤ n ∧ n ≤ 40
  · refine c_lots hC hZ h0 h1 hn40.1 hn40.2 (fun m1 a' c f hc => ⟨_, m1, g, rfl, rfl, fun j => f.1 1001 j (by omega), rfl, mod m1 _ f (fun _ _ => n_lots hV hR f h0 h1 hn40.1 hn40.2 fun m2 a'' c' f2 hc' => ?_) (fun h => absurd hn40 h)⟩)
    exact p_m (z_lt_uni hc hc').2 (I_q hI f f2)
  · exact y_139_3 ⟨(by unfold z_ok; omega), fun _ => ⟨(by unfold z_ok2; omega), fun _ => ⟨-2, m, g, rfl, rfl, fun _ => rfl, rfl, mod m _ q0 (fun h1 h2 => absurd ⟨h1, h2⟩ hn40) (fun _ => p_m rfl hI)⟩, fun _ => ⟨(by unfold z_ok2; omega), (fun h => absurd h (by omega)), fun _ => ⟨-2, m, g, rfl, rfl, fun _ => rfl, rfl, mod m _ q0 (fun h1 h2 => absurd ⟨h1, h2⟩ hn40) (fun _ => p_m rfl hI)⟩⟩⟩, (fun h => absurd h (by omega))⟩
