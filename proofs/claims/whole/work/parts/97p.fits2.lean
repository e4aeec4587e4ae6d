/-! PAIRS: fits, the pair -/
def f_T (m : z_M) (s e v : Int) : Nat → Int := fun i => if i = e.toNat then v else m (7 + s.toNat) i
def f_N (m : z_M) (s e v : Int) : Nat → Int := n_at (s_p m) (s_S m s) (m 4 s.toNat) (m 5 s.toNat) (f_T m s e v)
def f_P (m : z_M) (s e : Int) (v : Nat) : Prop := s_see m (s_p m) (f_N m s e v)
theorem f_N_N {m : z_M} {s e v : Int} (hV : i_V m) : x_N (s_p m) (s_S m s) (f_N m s e v) := n_at_N (s_p_pr hV)
theorem c_fits {m : z_M} {g : z_g} {Q : q_V → q_S → Prop} {s e w : Int} (hC : i_C m) (hZ : i_Z m) (hs : s_has m s e) (hw : w = 0 ∨ w = 1) (kk : ∀ m' c a, c_Q m m' → z_cn (f_P m s e) 0 (s_p m).toNat c a → Q (.inl (if w = 0 then c else a)) (z_st m' g)) : z_T 137 4 [.inr (.inr 0), .inl s, .inl e, .inl w, q_dead, q_dead, q_dead, q_dead] [.inl 1] (z_st m g) Q := by
  have hV := hC.1
  have hp := s_p_pr hV
  have hp5 := z_pr_le hp
  obtain ⟨⟨h0, h1⟩, e0, e1, hb⟩ := hs
  have hSV := (s_S_V hV h0 h1).1
  have h6 := hSV.2.2
  obtain ⟨-, -, k1, k2, k3, k4, -⟩ := hV.2.2.2.2.2.1 s.toNat (by omega)
  refine y_137_4 ⟨(by unfold z_ok; omega), (fun h => absurd h (by omega)), fun _ => ⟨(by unfold z_ok; omega), (fun h => absurd h (by omega)), fun _ => ⟨(by unfold z_ok2; omega), fun _ => c_lookAt hC h0 h1 fun m1 f1 hT g4 g5 => y_137_15 (c_place_b h6 hT.2.1 (by unfold z_ok; omega) (fun k hk ek => y_137_20 ?_) (fun hno => ?_)), (fun h => absurd h (by omega))⟩⟩⟩
  · have hV1 : i_V m1 := i_V_of (fun b j _ _ => f1 b j (by omega)) hV
    have ek' : x_at (s_S m s) k = e.toNat := by omega
    have told : ∀ (m2 : z_M) (v : Int), (∀ b j, ¬ (b = 68 ∧ j = k) → m2 b j = m1 b j) → t_TT (q_upd m2 68 k (x_raw (s_S m s) (m 4 s.toNat) (m 5 s.toNat) (x_at (s_S m s) k) v % s_p m)) (s_p m) (s_S m s) (f_N m s e v) := by
      intro m2 v q
      have hF : t_F m2 (s_p m) := ⟨hT.1.1, by rw [q 29 0 (by omega)]; exact hT.1.2.1, fun x e hx he => by rw [q (31 + x) e (by omega)]; exact hT.1.2.2.1 x e hx he, fun x hx => by rw [q 62 x (by omega)]; exact hT.1.2.2.2 x hx⟩
      refine ⟨⟨hF.1, by rw [z_un (by omega)]; exact hF.2.1, fun x e hx he => by rw [z_un (by omega)]; exact hF.2.2.1 x e hx he, fun x hx => by rw [z_un (by omega)]; exact hF.2.2.2 x hx⟩, ⟨by rw [z_un (by omega), q 66 1 (by omega)]; exact hT.2.1.1, fun i hi => by rw [z_un (by omega), q (66 + 1) i (by omega)]; exact hT.2.1.2 i hi⟩, fun i hi => ?_⟩
      unfold f_N
      rw [n_at_at hi]
      by_cases hik : i = k
      · rw [z_ue rfl hik, hik]
        unfold f_T
        rw [if_pos ek']
      · rw [z_un (by omega), q 68 i (by omega), hT.2.2 i hi]
        unfold s_N f_T
        rw [n_at_at hi, if_neg (fun h => hik (x_at_inj hi hk (h.trans ek'.symm)))]
    have loop : ∀ (d v : Nat) (vi c a : Int) (m2 : z_M), (s_p m).toNat - v = d → vi = (v : Int) → v ≤ (s_p m).toNat → (∀ b j, ¬ (b = 68 ∧ j = k) → m2 b j = m1 b j) → z_cn (f_P m s e) 0 v c a → 0 ≤ c → c ≤ v → z_T 137 27 [.inr (.inr 0), .inl s, .inl e, .inl w, .inl (k : Int), .inl c, .inl a, .inl vi] [] (z_st m2 g) Q := by
      intro d
      induction d with
      | zero =>
        intro v vi c a m2 hd hvi hvn q hc c0 c1
        have hv : v = (s_p m).toNat := by omega
        subst hv
        have hQ : c_Q m m2 := ⟨fun b j hh => by rw [q b j (by omega), f1 b j (by omega)], Or.inr ⟨s_p m, hT.1.1, by rw [q 29 0 (by omega)]; exact hT.1.2.1, fun x e hx he => by rw [q (31 + x) e (by omega)]; exact hT.1.2.2.1 x e hx he, fun x hx => by rw [q 62 x (by omega)]; exact hT.1.2.2.2 x hx⟩, by show _ = _; rw [q 72 12 (by omega), f1 72 12 (by omega)]; exact hZ⟩
        refine y_137_27 ?_
        rw [q 29 0 (by omega), hT.1.2.1]
        refine ⟨(by unfold z_ok2; omega), fun _ => ⟨(by unfold z_ok; omega), fun hw0 => ?_, fun hw0 => ?_⟩, (fun h => absurd h (by omega))⟩
        · have := kk m2 c a hQ hc
          rw [if_neg hw0] at this
          exact this
        · have := kk m2 c a hQ hc
          rw [if_pos hw0] at this
          exact this
      | succ d ih =>
        intro v vi c a m2 hd hvi hvn q hc c0 c1
        have q' : ∀ y b j, ¬ (b = 68 ∧ j = k) → (q_upd m2 68 k y) b j = m1 b j := fun y b j h => by rw [z_un h]; exact q b j h
        refine y_137_27 ?_
        rw [q 29 0 (by omega), hT.1.2.1]
        refine ⟨(by unfold z_ok2; omega), (fun h => absurd h (by omega)), fun _ => c_tell (fg := m 5 s.toNat) (kd := m 4 s.toNat) (p := s_p m) hp (by rw [q 29 0 (by omega)]; exact hT.1.2.1) h6 ⟨by rw [q 66 1 (by omega)]; exact hT.2.1.1, fun i hi => by rw [q (66 + 1) i (by omega)]; exact hT.2.1.2 i hi⟩ (by rw [q 65 4 (by omega)]; exact g4) (by rw [q 65 5 (by omega)]; exact g5) ⟨k1, k2⟩ ⟨k3, k4⟩ (by omega) (by omega) ⟨by omega, by omega⟩ (y_137_37 ?_)⟩
        rw [show ((k : Int)).toNat = k by omega]
        have hT2 := told m2 vi q
        have q2 := q' (x_raw (s_S m s) (m 4 s.toNat) (m 5 s.toNat) (x_at (s_S m s) k) vi % s_p m)
        generalize (q_upd m2 68 k (x_raw (s_S m s) (m 4 s.toNat) (m 5 s.toNat) (x_at (s_S m s) k) vi % s_p m)) = m3 at hT2 q2
        subst hvi
        have hV3 : i_V m3 := i_V_of (fun b j _ _ => q2 b j (by omega)) hV1
        have see : s_see m3 (s_p m) (f_N m s e v) ↔ f_P m s e v := by
          have w1 : ∀ b j, b < 29 → m3 b j = m b j := fun b j h => by rw [q2 b j (by omega), f1 b j (by omega)]
          unfold f_P s_see
          rw [w1 1 8 (by omega)]
          exact ⟨fun h i hi => by have := h i hi; rw [w1 13 i (by omega), w1 14 i (by omega)] at this; exact this, fun h i hi => by rw [w1 13 i (by omega), w1 14 i (by omega)]; exact h i hi⟩
        refine c_seesAll hV3 h6 hT2 (f_N_N hV) (fun hy => y_137_39 ⟨(by unfold z_ok; omega), (fun h => absurd h (by omega)), fun _ => ⟨by unfold z_ok; omega, fun hc0 => ?_, fun hc0 => ?_⟩⟩) (fun hn => y_137_39 ⟨(by unfold z_ok; omega), fun _ => ih (v + 1) _ c a m3 (by omega) (by omega) (by omega) q2 (z_cn_up' hc (fun hh => hn (see.2 hh))) c0 (by omega), (fun h => absurd h (by omega))⟩)
        · have := z_cn_up hc (by omega) (see.1 hy)
          rw [if_neg hc0] at this
          exact ih (v + 1) _ (c + 1) a m3 (by omega) (by omega) (by omega) q2 this (by omega) (by omega)
        · have := z_cn_up hc (by omega) (see.1 hy)
          rw [if_pos hc0] at this
          exact ih (v + 1) _ (c + 1) _ m3 (by omega) (by omega) (by omega) q2 this (by omega) (by omega)
    exact loop (s_p m).toNat 0 0 0 (-5) m1 (by omega) rfl (by omega) (fun _ _ _ => rfl) z_cn_0 (by omega) (by omega)
  · obtain ⟨k, hk, ek⟩ := x_at_ex (S := s_S m s) (e := e.toNat) (by omega) hb
    exact absurd (by omega) (hno k hk)
theorem n_fits {m m1 : z_M} {g : z_g} {Q : q_V → q_S → Prop} {s e w : Int} (hV : i_V m) (hR : i_R m) (f : c_Q m m1) (hs : s_has m s e) (hw : w = 0 ∨ w = 1) (kk : ∀ m' c a, n_Q m1 m' → z_cn (f_P m s e) 0 (s_p m).toNat c a → Q (.inl (if w = 0 then c else a)) (z_st m' g)) : z_T 265 14 [.inr (.inr 131), .inl s, .inl e, .inl w, q_dead, q_dead, q_dead, q_dead, q_dead] [.inl 1] (z_st m1 g) Q := by
  have hp := s_p_pr hV
  have hp5 := z_pr_le hp
  obtain ⟨⟨h0, h1⟩, e0, e1, hb⟩ := hs
  have v3 := hV.2.2.1
  have hS := I_nS hV hR h0 h1 (c_Q_fr f)
  have hP := hS.1
  have ei : (13 * s + e).toNat = 13 * s.toNat + e.toNat := by omega
  refine y_265_14 ⟨(by unfold z_ok; omega), fun _ => ⟨⟨by omega, by omega⟩, n_p hP (y_265_34 ?_)⟩, (fun h => absurd h (by omega))⟩
  have loop : ∀ (d : Nat) (vi c a : Int) (m2 : z_M), vi = (d : Int) - 1 → d ≤ (s_p m).toNat → (∀ b j, ¬ b = 138 → ¬ (b = 137 ∧ j = (13 * s + e).toNat) → m2 b j = m1 b j) → z_cn (f_P m s e) d (s_p m).toNat c a → z_T 265 37 [.inr (.inr 131), .inl s, .inl e, .inl w, .inl (13 * s + e), .inl (m1 137 (13 * s + e).toNat), .inl c, .inl a, .inl vi] [] (z_st m2 g) Q := by
    intro d
    induction d with
    | zero =>
      intro vi c a m2 hvi hdn q hc
      have hQ : n_Q m1 (q_upd m2 137 (13 * s + e).toNat (m1 137 (13 * s + e).toNat)) := fun b j hh => by
        by_cases hbj : b = 137 ∧ j = (13 * s + e).toNat
        · rw [z_ue hbj.1 hbj.2, hbj.1, hbj.2]
        · rw [z_un hbj]; exact q b j (by omega) hbj
      refine y_265_37 ⟨(by unfold z_ok; omega), fun _ => ⟨⟨by omega, by omega⟩, (by unfold z_ok; omega), fun hw0 => ?_, fun hw0 => ?_⟩, (fun h => absurd h (by omega))⟩
      · have := kk _ c a hQ hc
        rw [if_neg hw0] at this
        exact this
      · have := kk _ c a hQ hc
        rw [if_pos hw0] at this
        exact this
    | succ d ih =>
      intro vi c a m2 hvi hdn q hc
      have hvi' : vi = (d : Int) := by omega
      subst hvi'
      have q' : ∀ b j, ¬ b = 138 → ¬ (b = 137 ∧ j = (13 * s + e).toNat) → (q_upd m2 137 (13 * s + e).toNat (d : Int)) b j = m1 b j := fun b j h1 h2 => by rw [z_un h2]; exact q b j h1 h2
      have qe : (q_upd m2 137 (13 * s + e).toNat (d : Int)) 137 (13 * s + e).toNat = (d : Int) := z_ue rfl rfl
      refine y_265_37 ⟨(by unfold z_ok; omega), (fun h => absurd h (by omega)), fun _ => ⟨⟨by omega, by omega⟩, ?_⟩⟩
      generalize (q_upd m2 137 (13 * s + e).toNat (d : Int)) = m3 at q' qe
      have hS3 : n_S m3 s (s_p m) (s_S m s) (m 4 s.toNat) (m 5 s.toNat) (f_T m s e d) := by
        obtain ⟨⟨p1, p2, p3, p4⟩, b1, b2, b3, b4, b5, b6, b7, b8, b9⟩ := hS
        refine ⟨⟨p1, by rw [q' 131 1 (by omega) (by omega)]; exact p2, by rw [q' 131 1 (by omega) (by omega)]; exact p3, by rw [q' 131 1 (by omega) (by omega), q' 132 _ (by omega) (by omega)]; exact p4⟩, b1, by rw [q' 134 _ (by omega) (by omega)]; exact b2, by rw [q' 134 _ (by omega) (by omega), q' 133 _ (by omega) (by omega)]; exact b3, b4, by rw [q' 135 _ (by omega) (by omega)]; exact b5, b6, by rw [q' 136 _ (by omega) (by omega)]; exact b7, b8, fun i hi => ?_⟩
        unfold f_T
        by_cases hie : i = e.toNat
        · rw [if_pos hie, show (13 * s + (i : Int)).toNat = (13 * s + e).toNat by omega, qe]
          exact ⟨rfl, by omega, by omega⟩
        · rw [if_neg hie, q' 137 _ (by omega) (by omega)]
          exact b9 i hi
      refine n_looks hS3 fun m4 f4 r4 => y_265_47 ?_
      have q4 : ∀ b j, ¬ b = 138 → ¬ (b = 137 ∧ j = (13 * s + e).toNat) → m4 b j = m1 b j := fun b j h1 h2 => by rw [f4 b j h1, q' b j h1 h2]
      have hP4 : n_P m4 (s_p m) := ⟨hP.1, by rw [q4 131 1 (by omega) (by omega)]; exact hP.2.1, by rw [q4 131 1 (by omega) (by omega)]; exact hP.2.2.1, by rw [q4 131 1 (by omega) (by omega), q4 132 _ (by omega) (by omega)]; exact hP.2.2.2⟩
      refine n_seesAll (N := f_N m s e d) hV hP4 r4 (fun i _ => (f_N_N hV).1 i) (by rw [q4 131 28 (by omega) (by omega), f.1 131 28 (by omega)]; exact hR.1.2.2.2) (fun i hi => by rw [q4 151 i (by omega) (by omega), q4 152 i (by omega) (by omega), f.1 151 i (by omega), f.1 152 i (by omega)]; exact hR.2.2.2.1 i hi) (fun hy => y_265_49 ⟨(by unfold z_ok; omega), fun _ => ih _ _ _ m4 (by omega) (by omega) q4 (z_cn_dn hc (by omega) hy), (fun h => absurd h (by omega))⟩) (fun hn => y_265_49 ⟨(by unfold z_ok; omega), (fun h => absurd h (by omega)), fun _ => ih _ _ _ m4 (by omega) (by omega) q4 (z_cn_dn' hc hn)⟩)
  exact loop (s_p m).toNat _ 0 (-5) m1 (by omega) (by omega) (fun _ _ _ _ => rfl) z_cn_0
theorem p_fits {L : Nat} {m : z_M} {g : z_g} {s e w : Int} (hI : I L m g) (hs : z_ok s) (he : z_ok e) (hw : z_ok w) : z_pI (I L) 137 265 [.inl s, .inl e, .inl w] m g := by
  have hC := hI.2.2.2.1
  have hZ := hI.2.2.2.2.1
  have hV := hC.1
  have hR := hI.2.2.2.2.2.1
  have v3 := hV.2.2.1
  have e8 : m 131 8 = m 1 3 := hR.1.2.2.1
  have fr0 : n_fr m m := ⟨rfl, fun _ _ _ _ => rfl⟩
  have hw' := hw
  unfold z_ok at hw'
  have mno : ¬ s_has m s e → z_C 265 [.inr (.inr 131), .inl s, .inl e, .inl w] (z_st m g) (fun r' S'' => ∃ v' m2 g2, r' = .inl v' ∧ S'' = z_st m2 g2 ∧ q_w (-1) = q_w v' ∧ I L m2 g2) := fun hn =>
    y_265 (n_isSum hs e8 v3 (fun h0 h1 => y_265_3 ⟨(by unfold z_ok; omega), (fun h => absurd h (by omega)), fun _ => n_setOf (I_nS hV hR h0 h1 fr0) (y_265_7 (n_has (by have := (I_nS hV hR h0 h1 fr0).2.2.2.2.1.1; omega) he (fun h2 h3 hb => absurd ⟨⟨h0, h1⟩, h2, h3, hb⟩ hn) (fun _ => y_265_9 ⟨(by unfold z_ok; omega), fun _ => p_m rfl hI, (fun h => absurd h (by omega))⟩)))⟩) (fun _ => y_265_3 ⟨(by unfold z_ok; omega), fun _ => p_m rfl hI, (fun h => absurd h (by omega))⟩))
  have myes : s_has m s e → ∀ (m1 : z_M) (Q : q_V → q_S → Prop), c_Q m m1 → (0 ≤ w → w ≤ 1 → z_T 265 14 [.inr (.inr 131), .inl s, .inl e, .inl w, q_dead, q_dead, q_dead, q_dead, q_dead] [.inl 1] (z_st m1 g) Q) → (¬ (0 ≤ w ∧ w ≤ 1) → Q (.inl (-1)) (z_st m1 g)) → z_C 265 [.inr (.inr 131), .inl s, .inl e, .inl w] (z_st m1 g) Q := fun hh m1 Q f k1 k0 =>
    have hS1 := I_nS hV hR hh.1.1 hh.1.2 (c_Q_fr f)
    y_265 (n_isSum hs (by rw [f.1 131 8 (by omega)]; exact e8) v3 (fun h0 h1 => y_265_3 ⟨(by unfold z_ok; omega), (fun h => absurd h (by omega)), fun _ => n_setOf hS1 (y_265_7 (n_has (by have := hS1.2.2.2.2.1.1; omega) he (fun _ _ _ => y_265_9 ⟨(by unfold z_ok; omega), (fun h => absurd h (by omega)), fun _ => n_isIn hw (by unfold z_ok; omega) (by unfold z_ok; omega) (fun w0 w1 => k1 w0 w1) (fun hn => y_265_14 ⟨(by unfold z_ok; omega), (fun h => absurd h (by omega)), fun _ => k0 hn⟩)⟩) (fun hn => absurd hh.2 hn)))⟩) (fun hn => absurd hh.1 hn))
  have q0 := c_Q_refl hC.2.1 hZ
  refine y_137 (c_isExponentOf hs he hV (fun hh => ?_) (fun hn => y_137_4 ⟨(by unfold z_ok; omega), fun _ => ⟨-1, m, g, rfl, rfl, fun _ => rfl, rfl, mno hn⟩, (fun h => absurd h (by omega))⟩))
  by_cases hw01 : 0 ≤ w ∧ w ≤ 1
  · refine c_fits hC hZ hh (by omega) (fun m1 c a f hc => ⟨_, m1, g, rfl, rfl, fun j => f.1 1001 j (by omega), rfl, myes hh m1 _ f (fun _ _ => n_fits hV hR f hh (by omega) fun m2 c' a' f2 hc' => ?_) (fun hn => absurd hw01 hn)⟩)
    obtain ⟨u1, u2⟩ := z_cn_uni hc hc'
    exact p_m (by rw [u1, u2]) (I_q hI f f2)
  · exact y_137_4 ⟨(by unfold z_ok; omega), (fun h => absurd h (by omega)), fun _ => ⟨hw, fun _ => ⟨-1, m, g, rfl, rfl, fun _ => rfl, rfl, myes hh m _ q0 (fun h1 h2 => absurd ⟨h1, h2⟩ hw01) (fun _ => p_m rfl hI)⟩, fun h0 => ⟨(by unfold z_ok2; omega), (fun h => absurd h (by omega)), fun _ => ⟨-1, m, g, rfl, rfl, fun _ => rfl, rfl, myes hh m _ q0 (fun h1 h2 => absurd ⟨h1, h2⟩ hw01) (fun _ => p_m rfl hI)⟩⟩⟩⟩
