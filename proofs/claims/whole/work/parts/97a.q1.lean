/-! PAIRS: queries of a sum -/
def c_Q (m m' : z_M) : Prop := (∀ a j, (a < 29 ∨ 108 < a) → m' a j = m a j) ∧ i_T m' ∧ i_Z m'
def n_Q (m m' : z_M) : Prop := ∀ a j, ¬ ((138 ≤ a ∧ a ≤ 148) ∨ a = 153 ∨ a = 155 ∨ a = 156 ∨ a = 163 ∨ (a = 131 ∧ (j = 15 ∨ j = 16 ∨ j = 18 ∨ j = 34 ∨ j = 35 ∨ j = 46 ∨ j = 48))) → m' a j = m a j
theorem I_q {L : Nat} {m m1 m2 : z_M} {g : z_g} (h : I L m g) (f1 : c_Q m m1) (f2 : n_Q m1 m2) : I L m2 g := by
  refine I_scr h (fun a j hs => ?_) (i_T_of (fun a j h1 h2 => f2 a j (by omega)) f1.2.1) ?_
  · unfold z_scr at hs
    rw [f2 a j (by omega), f1.1 a j (by omega)]
  · show m2 72 12 = 0
    rw [f2 72 12 (by omega)]
    exact f1.2.2
theorem c_Q_fr {m m1 : z_M} (f : c_Q m m1) : n_fr m m1 := ⟨f.1 131 1 (by omega), fun a j _ _ => f.1 a j (by omega)⟩
theorem c_Q_refl {m : z_M} (hT : i_T m) (hZ : i_Z m) : c_Q m m := ⟨fun _ _ _ => rfl, hT, hZ⟩
theorem n_Q_refl {m : z_M} : n_Q m m := fun _ _ _ => rfl
/-- after a look at a sum, and what touches places 69 .. 108 alone -/
theorem c_Q_of {m m1 m2 : z_M} {p : Int} {S : Nat} {N : Nat → Int} (hZ : i_Z m) (f1 : ∀ a j, (a < 29 ∨ 68 < a) → m1 a j = m a j) (hT : t_TT m1 p S N) (f2 : t_sam 69 108 m1 m2) (hz : m2 72 12 = m1 72 12) : c_Q m m2 := by
  refine ⟨fun a j ha => by rw [f2 a j (by omega), f1 a j (by omega)], Or.inr ⟨p, t_F_sam hT.1 (by decide) f2⟩, ?_⟩
  show m2 72 12 = 0
  rw [hz, f1 72 12 (by omega)]
  exact hZ
theorem p_pair {L jc jm : Nat} {as : List q_V} {m : z_M} {g : z_g} (v : Int) (hI : I L m g) (hc : ∀ Q : q_V → q_S → Prop, (∀ m', c_Q m m' → Q (.inl v) (z_st m' g)) → z_C jc (.inr (.inr 0) :: as) (z_st m g) Q) (hm : ∀ m1, c_Q m m1 → ∀ Q : q_V → q_S → Prop, (∀ m', n_Q m1 m' → Q (.inl v) (z_st m' g)) → z_C jm (.inr (.inr 131) :: as) (z_st m1 g) Q) : z_pI (I L) jc jm as m g :=
  hc _ fun m1 f1 => ⟨v, m1, g, rfl, rfl, fun j => f1.1 1001 j (by omega), rfl, hm m1 f1 _ fun m2 f2 => ⟨v, m2, g, rfl, rfl, rfl, I_q hI f1 f2⟩⟩
theorem p_pairL {L jc jm : Nat} {as : List q_V} {m : z_M} {g : z_g} (v : Int) (hI : I L m g) (hc : ∀ Q : q_V → q_S → Prop, (∀ m', c_Q m m' → Q (.inr (.inl v)) (z_st m' g)) → z_C jc (.inr (.inr 0) :: as) (z_st m g) Q) (hm : ∀ m1, c_Q m m1 → ∀ Q : q_V → q_S → Prop, (∀ m', n_Q m1 m' → Q (.inr (.inl v)) (z_st m' g)) → z_C jm (.inr (.inr 131) :: as) (z_st m1 g) Q) : z_pL (I L) jc jm as m g :=
  hc _ fun m1 f1 => ⟨v, m1, g, rfl, rfl, fun j => f1.1 1001 j (by omega), rfl, hm m1 f1 _ fun m2 f2 => ⟨v, m2, g, rfl, rfl, rfl, I_q hI f1 f2⟩⟩
theorem c_isSumB {m : z_M} {g : z_g} {Q : q_V → q_S → Prop} {k : Int} (hk : z_ok k) (hV : i_V m) (k1 : 0 ≤ k → k < m 1 3 → Q (.inl 1) (z_st m g)) (k0 : ¬ (0 ≤ k ∧ k < m 1 3) → Q (.inl 0) (z_st m g)) : z_C 45 [.inr (.inr 0), .inl k] (z_st m g) Q := by
  obtain ⟨-, -, v3, -⟩ := hV
  refine c_isSum hk (by unfold z_ok; omega) ?_
  by_cases h : 0 ≤ k ∧ k < m 1 3
  · rw [if_pos h]; exact k1 h.1 h.2
  · rw [if_neg h]; exact k0 h
theorem c_isSupportB {m : z_M} {g : z_g} {Q : q_V → q_S → Prop} {k : Int} (hk : z_ok k) (hV : i_V m) (k1 : 0 ≤ k → k < m 1 1 → Q (.inl 1) (z_st m g)) (k0 : ¬ (0 ≤ k ∧ k < m 1 1) → Q (.inl 0) (z_st m g)) : z_C 24 [.inr (.inr 0), .inl k] (z_st m g) Q := by
  obtain ⟨-, v2, -⟩ := hV
  refine c_isSupport hk (by unfold z_ok; omega) ?_
  by_cases h : 0 ≤ k ∧ k < m 1 1
  · rw [if_pos h]; exact k1 h.1 h.2
  · rw [if_neg h]; exact k0 h
theorem n_isSum {m : z_M} {g : z_g} {Q : q_V → q_S → Prop} {k n : Int} (hk : z_ok k) (hn : m 131 8 = n) (hn2 : 0 ≤ n ∧ n ≤ 6) (k1 : 0 ≤ k → k < n → Q (.inl 1) (z_st m g)) (k0 : ¬ (0 ≤ k ∧ k < n) → Q (.inl 0) (z_st m g)) : z_C 209 [.inr (.inr 131), .inl k] (z_st m g) Q :=
  y_209 (n_isIn hk (by unfold z_ok; omega) (by unfold z_ok; omega) (fun h1 h2 => y_209_7 ⟨Or.inr rfl, k1 h1 (by omega)⟩) (fun h => y_209_7 ⟨Or.inl rfl, k0 (by omega)⟩))
theorem n_isSupport {m : z_M} {g : z_g} {Q : q_V → q_S → Prop} {k n : Int} (hk : z_ok k) (hn : m 131 3 = n) (hn2 : 0 ≤ n ∧ n ≤ 6) (k1 : 0 ≤ k → k < n → Q (.inl 1) (z_st m g)) (k0 : ¬ (0 ≤ k ∧ k < n) → Q (.inl 0) (z_st m g)) : z_C 195 [.inr (.inr 131), .inl k] (z_st m g) Q :=
  y_195 (n_isIn hk (by unfold z_ok; omega) (by unfold z_ok; omega) (fun h1 h2 => y_195_7 ⟨Or.inr rfl, k1 h1 (by omega)⟩) (fun h => y_195_7 ⟨Or.inl rfl, k0 (by omega)⟩))
/-- an exponent of a sum -/
def s_has (m : z_M) (s e : Int) : Prop := (0 ≤ s ∧ s < m 1 3) ∧ 0 ≤ e ∧ e ≤ 12 ∧ (s_S m s).testBit e.toNat = true
theorem c_isExponentOf {m : z_M} {g : z_g} {Q : q_V → q_S → Prop} {s e : Int} (hs : z_ok s) (he : z_ok e) (hV : i_V m) (k1 : s_has m s e → Q (.inl 1) (z_st m g)) (k0 : ¬ s_has m s e → Q (.inl 0) (z_st m g)) : z_C 44 [.inr (.inr 0), .inl s, .inl e] (z_st m g) Q := by
  unfold s_has at k1 k0
  refine y_44 (c_isSumB hs hV (fun h0 h1 => y_44_3 ⟨(by unfold z_ok; omega), fun h => absurd h (by decide), fun _ => ⟨he, fun h => k0 (by omega), fun h2 => ⟨by unfold z_ok at he; unfold z_ok2; omega, fun h => k0 (by omega), fun h3 => c_bitsOfSum hV h0 h1 (y_44_13 ?_)⟩⟩⟩) (fun hn => y_44_3 ⟨(by unfold z_ok; omega), fun _ => k0 (fun h => hn h.1), fun h => absurd rfl h⟩))
  obtain ⟨a1, -⟩ := s_S_V hV h0 h1
  obtain ⟨n, rfl⟩ := Int.eq_ofNat_of_zero_le h2
  rw [q_b_bit (by have := a1.1; omega) (by omega)]
  by_cases hb : (s_S m s).testBit n = true
  · rw [if_pos hb]
    exact ⟨(by unfold z_ok2; omega), fun h => absurd rfl h, fun _ => k1 ⟨⟨h0, h1⟩, h2, h3, hb⟩⟩
  · rw [if_neg hb]
    exact ⟨(by unfold z_ok2; omega), fun _ => k0 (fun h => hb h.2.2.2), fun h => absurd h (by decide)⟩
/-- the model's test of the same -/
theorem n_hasOf {m : z_M} {g : z_g} {Q : q_V → q_S → Prop} {s e p : Int} {S : Nat} {kd fg : Int} {T : Nat → Int} {P : Prop} (hS : n_S m s p S kd fg T) (he : z_ok e) (k1 : 0 ≤ e → e ≤ 12 → S.testBit e.toNat = true → Q (.inl 1) (z_st m g)) (k0 : ¬ (0 ≤ e ∧ e ≤ 12 ∧ S.testBit e.toNat = true) → Q (.inl 0) (z_st m g)) : z_C 210 [.inr (.inr 131), .inl s] (z_st m g) (fun v S' => z_C 204 [v, .inl e] S' Q) := n_setOf hS (n_has (by have := hS.2.2.2.2.1.1; omega) he k1 k0)
/-! of a sum -/
def r_ofSum (m : z_M) (s w : Int) : Int := if 0 ≤ s ∧ s < m 1 3 then (if w = 0 then m 3 s.toNat else if w = 1 then m 4 s.toNat else if w = 2 then m 5 s.toNat else if w = 3 then r_roots (s_p m) (s_N m s) else if w = 4 then r_doubles (s_p m) (s_N m s) else if w = 5 then r_notZero (s_N m s) else if w = 6 then (if x_top (r_G (s_p m) (l_N (s_S m s) (s_N m s))) 13 < 0 then -5 else x_top (r_G (s_p m) (l_N (s_S m s) (s_N m s))) 13) else -1) else -1
theorem s_N_N {m : z_M} {s : Int} (hV : i_V m) : x_N (s_p m) (s_S m s) (s_N m s) := n_at_N (s_p_pr hV)
theorem c_ofSum {m : z_M} {g : z_g} {Q : q_V → q_S → Prop} {s w : Int} (hs : z_ok s) (hw : z_ok w) (hC : i_C m) (hZ : i_Z m) (kk : ∀ m', c_Q m m' → Q (.inl (r_ofSum m s w)) (z_st m' g)) : z_C 48 [.inr (.inr 0), .inl s, .inl w] (z_st m g) Q := by
  have hV := hC.1
  have hN := s_N_N (s := s) hV
  unfold r_ofSum at kk
  refine y_48 (c_isSumB hs hV (fun h0 h1 => y_48_3 ⟨(by unfold z_ok; omega), fun _ => ?_, fun h => absurd h (by decide)⟩) (fun hn => y_48_3 ⟨(by unfold z_ok; omega), fun h => absurd rfl h, fun _ => ?_⟩))
  · rw [if_pos ⟨h0, h1⟩] at kk
    have hSV := (s_S_V hV h0 h1).1
    have h6 := hSV.2.2
    have h3 := hV.2.2.1
    refine c_lookAt hC h0 h1 fun m1 f1 hT h4 h5 => y_48_9 ?_
    have hq : c_Q m m1 := c_Q_of hZ f1 hT (fun _ _ _ => rfl) rfl
    refine ⟨hw, fun e => ⟨⟨by omega, by omega⟩, ?_⟩, fun e0 => ⟨fun e => ⟨⟨by omega, by omega⟩, ?_⟩, fun e1 => ⟨fun e => ⟨⟨by omega, by omega⟩, ?_⟩, fun e2 => ⟨fun e => ?_, fun e3 => ⟨fun e => ?_, fun e4 => ⟨fun e => ?_, fun e5 => ⟨fun e => ?_, fun e6 => ?_⟩⟩⟩⟩⟩⟩⟩
    · rw [if_pos e] at kk; rw [f1 3 _ (by omega)]; exact kk m1 hq
    · rw [if_neg e0, if_pos e] at kk; rw [f1 4 _ (by omega)]; exact kk m1 hq
    · rw [if_neg e0, if_neg e1, if_pos e] at kk; rw [f1 5 _ (by omega)]; exact kk m1 hq
    · rw [if_neg e0, if_neg e1, if_neg e2, if_pos e] at kk; exact c_roots h6 hT hN (y_48_32 (kk m1 hq))
    · rw [if_neg e0, if_neg e1, if_neg e2, if_neg e3, if_pos e] at kk; exact c_doubles h6 hT hN (y_48_36 (kk m1 hq))
    · rw [if_neg e0, if_neg e1, if_neg e2, if_neg e3, if_neg e4, if_pos e] at kk; exact c_notZero h6 hT hN (y_48_40 (kk m1 hq))
    · rw [if_neg e0, if_neg e1, if_neg e2, if_neg e3, if_neg e4, if_neg e5, if_pos e] at kk
      refine c_lowered hSV hT hN (by rw [f1 72 12 (by omega)]; exact hZ) fun m2 f2 g1 g2 g3 => y_48_46 ?_
      refine c_findCommon (t_T_sam hT (by decide) f2).1 g2 g3 (l_N_R hN) fun m3 f3 g4 g5 => y_48_49 ?_
      have ht := x_top_rng (r_G (s_p m) (l_N (s_S m s) (s_N m s))) 13
      have hq3 : c_Q m m3 := c_Q_of hZ f1 hT (fun a j ha => by rw [f3 a j (by omega) (by omega), f2 a j (by omega)]) (by rw [f3 72 12 (by omega) (by omega), g3 12 (by decide), f1 72 12 (by omega), show m 72 12 = 0 from hZ]; show l_D _ _ 12 = 0; unfold l_D l_N; rw [hN.2 _ (Or.inl (by omega)), Int.mul_zero]; exact Int.zero_emod _)
      rw [g4]
      refine ⟨(by unfold z_ok; omega), fun h => ?_, fun h => ?_⟩
      · rw [if_neg (by omega)] at kk; exact kk m3 hq3
      · rw [if_pos h] at kk; exact kk m3 hq3
    · rw [if_neg e0, if_neg e1, if_neg e2, if_neg e3, if_neg e4, if_neg e5, if_neg e6] at kk; exact kk m1 hq
  · rw [if_neg hn] at kk
    exact kk m (c_Q_refl hC.2.1 hZ)
theorem n_ofSum {m m1 : z_M} {g : z_g} {Q : q_V → q_S → Prop} {s w : Int} (hs : z_ok s) (hw : z_ok w) (hV : i_V m) (hR : i_R m) (f : c_Q m m1) (kk : ∀ m', n_Q m1 m' → Q (.inl (r_ofSum m s w)) (z_st m' g)) : z_C 212 [.inr (.inr 131), .inl s, .inl w] (z_st m1 g) Q := by
  unfold r_ofSum at kk
  have e8 : m1 131 8 = m 1 3 := by rw [f.1 131 8 (by omega)]; exact hR.1.2.2.1
  refine y_212 (n_isSum hs e8 hV.2.2.1 (fun h0 h1 => y_212_3 ⟨(by unfold z_ok; omega), fun _ => ?_, fun h => absurd h (by decide)⟩) (fun hn => y_212_3 ⟨(by unfold z_ok; omega), fun h => absurd rfl h, fun _ => ?_⟩))
  · rw [if_pos ⟨h0, h1⟩] at kk
    have hS := I_nS hV hR h0 h1 (c_Q_fr f)
    have hp := s_p_pr hV
    have h3 := hV.2.2.1
    have h6 := hR.2.1 s.toNat (by omega)
    have hN := s_N_N (s := s) hV
    have hNR : x_R (s_p m) (s_N m s) := fun i _ => hN.1 i
    refine n_looks hS fun m2 f2 hR2 => y_212_9 ?_
    have hfr : n_fr m1 m2 := ⟨f2 131 1 (by omega), fun a j _ _ => f2 a j (by omega)⟩
    have hP : n_P m2 (s_p m) := n_P_fr hS.1 hfr
    have hq : n_Q m1 m2 := fun a j ha => f2 a j (by omega)
    refine ⟨hw, fun e => ⟨⟨by omega, by omega⟩, ?_⟩, fun e0 => ⟨fun e => ⟨⟨by omega, by omega⟩, ?_⟩, fun e1 => ⟨fun e => ⟨⟨by omega, by omega⟩, ?_⟩, fun e2 => ⟨fun e => ?_, fun e3 => ⟨fun e => ?_, fun e4 => ⟨fun e => ?_, fun e5 => ⟨fun e => ?_, fun e6 => ?_⟩⟩⟩⟩⟩⟩⟩
    · rw [if_pos e, ← h6.2.1] at kk; rw [f2 134 _ (by omega), f.1 134 _ (by omega)]; exact kk m2 hq
    · rw [if_neg e0, if_pos e, ← h6.2.2.1] at kk; rw [f2 135 _ (by omega), f.1 135 _ (by omega)]; exact kk m2 hq
    · rw [if_neg e0, if_neg e1, if_pos e, ← h6.2.2.2] at kk; rw [f2 136 _ (by omega), f.1 136 _ (by omega)]; exact kk m2 hq
    · rw [if_neg e0, if_neg e1, if_neg e2, if_pos e, ← r_set_1] at kk
      exact n_rootsOf hP (by decide) hR2 hNR fun m3 g1 => y_212_29 (kk m3 fun a j ha => by rw [g1 a j (by omega), f2 a j (by omega)])
    · rw [if_neg e0, if_neg e1, if_neg e2, if_neg e3, if_pos e, ← r_set_2] at kk
      exact n_rootsOf hP (by decide) hR2 hNR fun m3 g1 => y_212_33 (kk m3 fun a j ha => by rw [g1 a j (by omega), f2 a j (by omega)])
    · rw [if_neg e0, if_neg e1, if_neg e2, if_neg e3, if_neg e4, if_pos e] at kk
      exact n_notNoughts hp hR2 hNR (y_212_36 (kk m2 hq))
    · rw [if_neg e0, if_neg e1, if_neg e2, if_neg e3, if_neg e4, if_neg e5, if_pos e] at kk
      refine n_findsCommon (n_S_fr hS hfr) fun m3 g1 g2 g3 => y_212_40 ?_
      have ht := x_top_rng (r_G (s_p m) (l_N (s_S m s) (s_N m s))) 13
      have g2 : m3 131 15 = x_top (r_G (s_p m) (l_N (s_S m s) (s_N m s))) 13 := g2
      rw [g2]
      have hq3 : n_Q m1 m3 := fun a j ha => by rw [g1 a j (by omega) (by omega), f2 a j (by omega)]
      refine ⟨(by unfold z_ok; omega), fun h => ?_, fun h => ?_⟩
      · rw [if_neg (by omega)] at kk; exact kk m3 hq3
      · rw [if_pos h] at kk; exact kk m3 hq3
    · rw [if_neg e0, if_neg e1, if_neg e2, if_neg e3, if_neg e4, if_neg e5, if_neg e6] at kk; exact kk m2 hq
  · rw [if_neg hn] at kk
    exact kk m1 n_Q_refl
theorem p_ofSum {L : Nat} {m : z_M} {g : z_g} {s w : Int} (hI : I L m g) (hs : z_ok s) (hw : z_ok w) : z_pI (I L) 48 212 [.inl s, .inl w] m g :=
  p_pair (r_ofSum m s w) hI (fun Q kk => c_ofSum hs hw hI.2.2.2.1 hI.2.2.2.2.1 kk) (fun m1 f1 Q kk => n_ofSum hs hw hI.2.2.2.1.1 hI.2.2.2.2.2.1 f1 kk)
/-! at -/
def r_at (m : z_M) (s e w : Int) [Decidable (s_has m s e)] : Int := if s_has m s e then (if w = 0 then m (7 + s.toNat) e.toNat else if w = 1 then s_N m s e.toNat else -1) else -1
theorem c_at {m : z_M} {g : z_g} {Q : q_V → q_S → Prop} {s e w : Int} [Decidable (s_has m s e)] (hs : z_ok s) (he : z_ok e) (hw : z_ok w) (hC : i_C m) (hZ : i_Z m) (kk : ∀ m', c_Q m m' → Q (.inl (r_at m s e w)) (z_st m' g)) : z_C 73 [.inr (.inr 0), .inl s, .inl e, .inl w] (z_st m g) Q := by
  have hV := hC.1
  have hN := s_N_N (s := s) hV
  unfold r_at at kk
  refine y_73 (c_isExponentOf hs he hV (fun hh => y_73_4 ⟨(by unfold z_ok; omega), fun _ => ⟨hw, fun w0 => ⟨by unfold z_ok at hw; unfold z_ok2; omega, fun w1 => ?_, fun w1 => ?_⟩, fun w0 => ?_⟩, fun h => absurd h (by decide)⟩) (fun hn => y_73_4 ⟨(by unfold z_ok; omega), fun h => absurd rfl h, fun _ => ?_⟩))
  · rw [if_pos hh, if_neg w0, if_neg w1] at kk
    exact kk m (c_Q_refl hC.2.1 hZ)
  · rw [if_pos hh, if_neg w0, if_pos w1] at kk
    obtain ⟨⟨h0, h1⟩, h2, h3, hb⟩ := hh
    have hSV := (s_S_V hV h0 h1).1
    have h6 := hSV.2.2
    refine c_lookAt hC h0 h1 fun m1 f1 hT h4 h5 => y_73_23 ?_
    refine c_place_b h6 hT.2.1 he (fun k hk ek => y_73_30 (c_numberAt h6 hT (by omega) (by omega) (y_73_31 ?_))) (fun hno => ?_)
    · rw [show ((k : Int)).toNat = k by omega, show x_at (s_S m s) k = e.toNat by omega]
      exact kk m1 (c_Q_of hZ f1 hT (fun _ _ _ => rfl) rfl)
    · obtain ⟨k, hk, ek⟩ := x_at_ex (S := s_S m s) (e := e.toNat) (by omega) hb
      exact absurd (by omega) (hno k hk)
  · rw [if_pos hh, if_pos w0] at kk
    obtain ⟨⟨h0, h1⟩, h2, h3, hb⟩ := hh
    have v3 := hV.2.2.1
    exact ⟨z_rw6 (by omega) (by omega), z_sp6 (by omega), ⟨by omega, by omega⟩, kk m (c_Q_refl hC.2.1 hZ)⟩
  · rw [if_neg hn] at kk
    exact kk m (c_Q_refl hC.2.1 hZ)
theorem n_at' {m m1 : z_M} {g : z_g} {Q : q_V → q_S → Prop} {s e w : Int} [Decidable (s_has m s e)] (hs : z_ok s) (he : z_ok e) (hw : z_ok w) (hV : i_V m) (hR : i_R m) (f : c_Q m m1) (kk : ∀ m', n_Q m1 m' → Q (.inl (r_at m s e w)) (z_st m' g)) : z_C 228 [.inr (.inr 131), .inl s, .inl e, .inl w] (z_st m1 g) Q := by
  unfold r_at at kk
  have k := kk m1 n_Q_refl
  have e8 : m1 131 8 = m 1 3 := by rw [f.1 131 8 (by omega)]; exact hR.1.2.2.1
  refine y_228 (n_isSum hs e8 hV.2.2.1 (fun h0 h1 => y_228_3 ⟨(by unfold z_ok; omega), fun h => absurd h (by decide), fun _ => ?_⟩) (fun hn => y_228_3 ⟨(by unfold z_ok; omega), fun _ => ?_, fun h => absurd rfl h⟩))
  · have hS := I_nS hV hR h0 h1 (c_Q_fr f)
    have v3 := hV.2.2.1
    refine n_setOf hS (y_228_7 (n_has (by have := hS.2.2.2.2.1.1; omega) he (fun h2 h3 hb => y_228_9 ⟨(by unfold z_ok; omega), fun h => absurd h (by decide), fun _ => ?_⟩) (fun hn => y_228_9 ⟨(by unfold z_ok; omega), fun _ => ?_, fun h => absurd rfl h⟩)))
    · have hh : s_has m s e := ⟨⟨h0, h1⟩, h2, h3, hb⟩
      rw [if_pos hh] at k
      refine n_isIn hw (by unfold z_ok; decide) (by unfold z_ok; decide) (fun w1 w2 => y_228_14 ⟨(by unfold z_ok; omega), fun _ => ⟨hw, fun w0 => ?_, fun w0 => ⟨⟨by omega, by omega⟩, y_228_32 ?_⟩⟩, fun h => absurd h (by decide)⟩) (fun wn => y_228_14 ⟨(by unfold z_ok; omega), fun h => absurd rfl h, fun _ => ?_⟩)
      · rw [if_neg w0, if_pos (by omega)] at k
        exact n_numberOf hS (by omega) (by omega) (y_228_32 k)
      · rw [if_pos w0, ← hR.2.2.1 s.toNat e.toNat (by omega) (by omega)] at k
        rw [show ((13 : Int) * s + e).toNat = 13 * s.toNat + e.toNat by omega, f.1 137 _ (by omega)]
        exact k
      · rw [if_neg (by omega), if_neg (by omega)] at k
        exact k
    · rw [if_neg (fun hh => hn ⟨hh.2.1, hh.2.2.1, hh.2.2.2⟩)] at k
      exact k
  · rw [if_neg (fun hh => hn hh.1)] at k
    exact k
theorem p_at {L : Nat} {m : z_M} {g : z_g} {s e w : Int} (hI : I L m g) (hs : z_ok s) (he : z_ok e) (hw : z_ok w) : z_pI (I L) 73 228 [.inl s, .inl e, .inl w] m g :=
  have := Classical.propDecidable (s_has m s e)
  p_pair (r_at m s e w) hI (fun Q kk => c_at hs he hw hI.2.2.2.1 hI.2.2.2.2.1 kk) (fun m1 f1 Q kk => n_at' hs he hw hI.2.2.2.1.1 hI.2.2.2.2.2.1 f1 kk)
/-! value -/
def r_value (m : z_M) (s x w : Int) : Int := if (0 ≤ s ∧ s < m 1 3) ∧ 0 ≤ x ∧ x < s_p m then (if w = 0 then v_at (s_p m) (s_N m s) x else if w = 1 then s_at (s_p m) (s_N m s) x else if w = 2 ∧ ¬ x = 0 then r_order (s_p m) x (s_N m s) else -1) else -1
theorem c_value {m : z_M} {g : z_g} {Q : q_V → q_S → Prop} {s x w : Int} (hs : z_ok s) (hx : z_ok x) (hw : z_ok w) (hC : i_C m) (hZ : i_Z m) (kk : ∀ m', c_Q m m' → Q (.inl (r_value m s x w)) (z_st m' g)) : z_C 74 [.inr (.inr 0), .inl s, .inl x, .inl w] (z_st m g) Q := by
  have hV := hC.1
  have hN := s_N_N (s := s) hV
  have hp := s_p_pr hV
  have hp5 := z_pr_le hp
  have k0 := kk m (c_Q_refl hC.2.1 hZ)
  unfold r_value at kk k0
  refine y_74 (c_isSumB hs hV (fun h0 h1 => y_74_3 ⟨(by unfold z_ok; omega), fun h => absurd h (by decide), fun _ => ⟨hx, fun hx0 => ?_, fun hx0 => c_modulus' hC (y_74_10 ⟨by unfold z_ok at hx; unfold z_ok2; omega, fun hx1 => ?_, fun hx1 => ?_⟩)⟩⟩) (fun hn => y_74_3 ⟨(by unfold z_ok; omega), fun _ => ?_, fun h => absurd rfl h⟩))
  · rw [if_neg (by omega)] at k0; exact k0
  · rw [if_pos (by omega)] at kk
    have hSV := (s_S_V hV h0 h1).1
    have h6 := hSV.2.2
    refine c_lookAt hC h0 h1 fun m1 f1 hT h4 h5 => y_74_16 ?_
    have hq : c_Q m m1 := c_Q_of hZ f1 hT (fun _ _ _ => rfl) rfl
    refine ⟨hw, fun w0 => ⟨by unfold z_ok at hw; unfold z_ok2; omega, fun w1 => ⟨by unfold z_ok at hw; unfold z_ok2; omega, fun w2 => ?_, fun w2 => ⟨hx, fun hz => ?_, fun hz => ?_⟩⟩, fun w1 => ?_⟩, fun w0 => ?_⟩
    · rw [if_neg w0, if_neg w1, if_neg (fun h => w2 h.1)] at kk; exact kk m1 hq
    · rw [if_neg w0, if_neg w1, if_neg (fun h => h.2 hz)] at kk; exact kk m1 hq
    · rw [if_neg w0, if_neg w1, if_pos ⟨w2, hz⟩] at kk
      refine c_lowered hSV hT hN (by rw [f1 72 12 (by omega)]; exact hZ) fun m2 f2 g1 g2 g3 => y_74_41 ?_
      refine c_orderAt hp (t_T_sam hT (by decide) f2).1.2.1 g2 (l_N_R hN) hx0 hx1 fun m3 f3 => y_74_45 ?_
      rw [r_order_low hp (by have := hSV.2.1; omega) hN (by omega) hx1]
      exact kk m3 (c_Q_of hZ f1 hT (fun a j ha => by rw [f3 a j (by omega), f2 a j (by omega)]) (by rw [f3 72 12 (by omega), g3 12 (by decide), f1 72 12 (by omega), show m 72 12 = 0 from hZ]; show l_D _ _ 12 = 0; unfold l_D l_N; rw [hN.2 _ (Or.inl (by omega)), Int.mul_zero]; exact Int.zero_emod _))
    · rw [if_neg w0, if_pos w1] at kk; exact c_slopeAt h6 hT hN hx0 hx1 (y_74_30 (kk m1 hq))
    · rw [if_pos w0] at kk; exact c_valueAt h6 hT hN hx0 hx1 (y_74_22 (kk m1 hq))
  · rw [if_neg (by omega)] at k0; exact k0
  · rw [if_neg (fun h => hn h.1)] at k0; exact k0
theorem n_value {m m1 : z_M} {g : z_g} {Q : q_V → q_S → Prop} {s x w : Int} (hs : z_ok s) (hx : z_ok x) (hw : z_ok w) (hV : i_V m) (hR : i_R m) (f : c_Q m m1) (kk : ∀ m', n_Q m1 m' → Q (.inl (r_value m s x w)) (z_st m' g)) : z_C 229 [.inr (.inr 131), .inl s, .inl x, .inl w] (z_st m1 g) Q := by
  unfold r_value at kk
  have hp := s_p_pr hV
  have hp5 := z_pr_le hp
  have k0 := kk m1 n_Q_refl
  have hN := s_N_N (s := s) hV
  have hNR : x_R (s_p m) (s_N m s) := fun i _ => hN.1 i
  have e8 : m1 131 8 = m 1 3 := by rw [f.1 131 8 (by omega)]; exact hR.1.2.2.1
  refine y_229 (n_isSum hs e8 hV.2.2.1 (fun h0 h1 => y_229_3 ⟨(by unfold z_ok; omega), fun h => absurd h (by decide), fun _ => ?_⟩) (fun hn => y_229_3 ⟨(by unfold z_ok; omega), fun _ => ?_, fun h => absurd rfl h⟩))
  · have hS := I_nS hV hR h0 h1 (c_Q_fr f)
    have hP := hS.1
    refine n_isIn hw (by unfold z_ok; decide) (by unfold z_ok; decide) (fun w1 w2 => y_229_8 ⟨(by unfold z_ok; omega), fun h => absurd h (by decide), fun _ => ?_⟩) (fun wn => y_229_8 ⟨(by unfold z_ok; omega), fun _ => ?_, fun h => absurd rfl h⟩)
    · have tail : ∀ l : Int, ((w = 2 ∧ l = 1) ∨ (¬ w = 2 ∧ l = 0)) → z_C 216 [.inr (.inr 131)] (z_st m1 g) (fun v S => z_T 229 18 [.inr (.inr 131), .inl s, .inl x, .inl w] (q_push v [.inl l, .inl x]) S Q) := by
        intro l hl
        refine n_p hP (y_229_18 (n_isIn hx (by unfold z_ok; omega) (by unfold z_ok; omega) (fun x1 x2 => y_229_21 ⟨(by unfold z_ok; omega), fun _ => ?_, fun h => absurd h (by decide)⟩) (fun xn => y_229_21 ⟨(by unfold z_ok; omega), fun h => absurd rfl h, fun _ => ?_⟩)))
        · rw [if_pos (by omega)] at kk
          refine n_looks hS fun m2 f2 hR2 => y_229_27 ?_
          have hfr : n_fr m1 m2 := ⟨f2 131 1 (by omega), fun a j _ _ => f2 a j (by omega)⟩
          have hP2 := n_P_fr hP hfr
          have hq : n_Q m1 m2 := fun a j ha => f2 a j (by omega)
          refine ⟨hw, fun w0 => ⟨by unfold z_ok at hw; unfold z_ok2; omega, fun w1 => ?_, fun w1 => ?_⟩, fun w0 => ?_⟩
          · rw [if_neg w0, if_neg w1, if_pos (by omega)] at kk
            exact n_orderOf hP2 hR2 hNR (by omega) (by omega) fun m3 g1 => y_229_43 (kk m3 fun a j ha => by rw [g1 a j (by omega), f2 a j (by omega)])
          · rw [if_neg w0, if_pos w1] at kk
            exact n_slopeAt hP2 hR2 hNR (by omega) (by omega) (y_229_39 (y_229_43 (kk m2 hq)))
          · rw [if_pos w0] at kk
            exact n_valueAt hP2 hR2 hNR (by omega) (by omega) (y_229_32 (y_229_43 (kk m2 hq)))
        · by_cases hc : (0 ≤ s ∧ s < m 1 3) ∧ 0 ≤ x ∧ x < s_p m
          · rw [if_pos hc, if_neg (by omega), if_neg (by omega), if_neg (by omega)] at k0
            exact k0
          · rw [if_neg hc] at k0
            exact k0
      exact ⟨by unfold z_ok at hw; unfold z_ok2; omega, fun w2 => tail 0 (Or.inr ⟨w2, rfl⟩), fun w2 => tail 1 (Or.inl ⟨w2, rfl⟩)⟩
    · by_cases hc : (0 ≤ s ∧ s < m 1 3) ∧ 0 ≤ x ∧ x < s_p m
      · rw [if_pos hc, if_neg (by omega), if_neg (by omega), if_neg (by omega)] at k0
        exact k0
      · rw [if_neg hc] at k0
        exact k0
  · rw [if_neg (fun h => hn h.1)] at k0
    exact k0
theorem p_value {L : Nat} {m : z_M} {g : z_g} {s x w : Int} (hI : I L m g) (hs : z_ok s) (hx : z_ok x) (hw : z_ok w) : z_pI (I L) 74 229 [.inl s, .inl x, .inl w] m g :=
  p_pair (r_value m s x w) hI (fun Q kk => c_value hs hx hw hI.2.2.2.1 hI.2.2.2.2.1 kk) (fun m1 f1 Q kk => n_value hs hx hw hI.2.2.2.1.1 hI.2.2.2.2.2.1 f1 kk)
/-! common -/
def r_common (m : z_M) (s i : Int) : Int := if (0 ≤ s ∧ s < m 1 3) ∧ 0 ≤ i then (if x_top (r_G (s_p m) (l_N (s_S m s) (s_N m s))) 13 < 0 then -5 else if i ≤ 12 then r_C (s_p m) (l_N (s_S m s) (s_N m s)) i.toNat else 0) else -1
theorem r_C_0 {p : Int} {L : Nat → Int} {i : Nat} (h : x_top (r_G p L) 13 < i) (hi : i < 13) : r_C p L i = 0 := by
  unfold r_C
  rw [x_top_zero hi h, Int.zero_mul, Int.zero_emod]
theorem c_common {m : z_M} {g : z_g} {Q : q_V → q_S → Prop} {s i : Int} (hs : z_ok s) (hi : z_ok i) (hC : i_C m) (hZ : i_Z m) (kk : ∀ m', c_Q m m' → Q (.inl (r_common m s i)) (z_st m' g)) : z_C 77 [.inr (.inr 0), .inl s, .inl i] (z_st m g) Q := by
  have hV := hC.1
  have hN := s_N_N (s := s) hV
  have k0 := kk m (c_Q_refl hC.2.1 hZ)
  unfold r_common at kk k0
  refine y_77 (c_isSumB hs hV (fun h0 h1 => y_77_3 ⟨(by unfold z_ok; omega), fun h => absurd h (by decide), fun _ => ⟨hi, fun hi0 => ?_, fun hi0 => ?_⟩⟩) (fun hn => y_77_3 ⟨(by unfold z_ok; omega), fun _ => ?_, fun h => absurd rfl h⟩))
  · rw [if_pos ⟨⟨h0, h1⟩, hi0⟩] at kk
    have hSV := (s_S_V hV h0 h1).1
    refine c_lookAt hC h0 h1 fun m1 f1 hT h4 h5 => y_77_11 ?_
    refine c_lowered hSV hT hN (by rw [f1 72 12 (by omega)]; exact hZ) fun m2 f2 g1 g2 g3 => y_77_16 ?_
    refine c_findCommon (t_T_sam hT (by decide) f2).1 g2 g3 (l_N_R hN) fun m3 f3 g4 g5 => y_77_19 ?_
    have ht := x_top_rng (r_G (s_p m) (l_N (s_S m s) (s_N m s))) 13
    have hq3 : c_Q m m3 := c_Q_of hZ f1 hT (fun a j ha => by rw [f3 a j (by omega) (by omega), f2 a j (by omega)]) (by rw [f3 72 12 (by omega) (by omega), g3 12 (by decide), f1 72 12 (by omega), show m 72 12 = 0 from hZ]; show l_D _ _ 12 = 0; unfold l_D l_N; rw [hN.2 _ (Or.inl (by omega)), Int.mul_zero]; exact Int.zero_emod _)
    rw [g4]
    refine ⟨(by unfold z_ok; omega), fun h => ⟨by unfold z_ok at hi; unfold z_ok2; omega, fun hle => ?_, fun hlt => y_77_36 ?_⟩, fun h => ?_⟩
    · rw [if_neg (by omega), if_pos (by omega)] at kk
      exact c_commonAt hi0 (by omega) g5 (y_77_36 (kk m3 hq3))
    · rw [if_neg (by omega)] at kk
      by_cases h12 : i ≤ 12
      · rw [if_pos h12, r_C_0 (by omega) (by omega)] at kk; exact kk m3 hq3
      · rw [if_neg h12] at kk; exact kk m3 hq3
    · rw [if_pos h] at kk; exact kk m3 hq3
  · rw [if_neg (by omega)] at k0; exact k0
  · rw [if_neg (fun h => hn h.1)] at k0; exact k0
theorem n_common {m m1 : z_M} {g : z_g} {Q : q_V → q_S → Prop} {s i : Int} (hs : z_ok s) (hi : z_ok i) (hV : i_V m) (hR : i_R m) (f : c_Q m m1) (kk : ∀ m', n_Q m1 m' → Q (.inl (r_common m s i)) (z_st m' g)) : z_C 232 [.inr (.inr 131), .inl s, .inl i] (z_st m1 g) Q := by
  unfold r_common at kk
  have k0 := kk m1 n_Q_refl
  have e8 : m1 131 8 = m 1 3 := by rw [f.1 131 8 (by omega)]; exact hR.1.2.2.1
  refine y_232 (n_isSum hs e8 hV.2.2.1 (fun h0 h1 => y_232_3 ⟨(by unfold z_ok; omega), fun h => absurd h (by decide), fun _ => ⟨hi, fun hi0 => ?_, fun hi0 => ?_⟩⟩) (fun hn => y_232_3 ⟨(by unfold z_ok; omega), fun _ => ?_, fun h => absurd rfl h⟩))
  · rw [if_pos ⟨⟨h0, h1⟩, hi0⟩] at kk
    have hS := I_nS hV hR h0 h1 (c_Q_fr f)
    refine n_findsCommon hS fun m3 g1 g2 g3 => y_232_11 ?_
    have ht := x_top_rng (r_G (s_p m) (l_N (s_S m s) (s_N m s))) 13
    have g2 : m3 131 15 = x_top (r_G (s_p m) (l_N (s_S m s) (s_N m s))) 13 := g2
    have g3 : t_R m3 142 (r_C (s_p m) (l_N (s_S m s) (s_N m s))) := g3
    rw [g2]
    have hq3 : n_Q m1 m3 := fun a j ha => g1 a j (by omega) (by omega)
    refine ⟨(by unfold z_ok; omega), fun h => ⟨by unfold z_ok at hi; unfold z_ok2; omega, fun hle => ⟨⟨by omega, by omega⟩, ?_⟩, fun hlt => ?_⟩, fun h => ?_⟩
    · rw [if_neg (by omega), if_pos hle] at kk
      rw [g3 i.toNat (by omega)]
      exact kk m3 hq3
    · rw [if_neg (by omega), if_neg (by omega)] at kk; exact kk m3 hq3
    · rw [if_pos h] at kk; exact kk m3 hq3
  · rw [if_neg (by omega)] at k0; exact k0
  · rw [if_neg (fun h => hn h.1)] at k0; exact k0
theorem p_common {L : Nat} {m : z_M} {g : z_g} {s i : Int} (hI : I L m g) (hs : z_ok s) (hi : z_ok i) : z_pI (I L) 77 232 [.inl s, .inl i] m g :=
  p_pair (r_common m s i) hI (fun Q kk => c_common hs hi hI.2.2.2.1 hI.2.2.2.2.1 kk) (fun m1 f1 Q kk => n_common hs hi hI.2.2.2.1.1 hI.2.2.2.2.2.1 f1 kk)
