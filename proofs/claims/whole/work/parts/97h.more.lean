/-! PAIRS: ofSupport, relation, sum, count -/
theorem c_P162 : q_P 162 = (q_c162, 1) := rfl
theorem c_P163 : q_P 163 = (q_c163, 1) := rfl
theorem c_textLength {m : z_M} {g : z_g} {Q : q_V → q_S → Prop} (k : Q (.inl (m 125 3)) (z_st m g)) : z_C 162 [.inr (.inr 125)] (z_st m g) Q := by
  refine z_C_wp [] 40 c_P162 ?_
  refine z_C_wp [] 40 c_P163 ?_
  exact k
theorem p_count {L : Nat} {m : z_M} {g : z_g} {w : Int} (hI : I L m g) (hw : z_ok w) : z_pI (I L) 186 295 [.inl w] m g := by
  have hh := hI
  obtain ⟨hg, hSc, hD, hC, hZ, hR, hK, hSt, hL, hX, hW, hF⟩ := hh
  have fin : ∀ v : Int, z_C 295 [.inr (.inr 131), .inl w] (z_st m g) (fun r' S'' => ∃ v' m2 g2, r' = .inl v' ∧ S'' = z_st m2 g2 ∧ q_w v = q_w v' ∧ I L m2 g2) → ∃ v' m1 g1, (.inl v : q_V) = .inl v' ∧ z_st m g = z_st m1 g1 ∧ (∀ j, m1 1001 j = m 1001 j) ∧ g1.1 = g.1 ∧ z_C 295 [.inr (.inr 131), .inl w] (z_st m1 g1) (fun r' S'' => ∃ v'' m2 g2, r' = .inl v'' ∧ S'' = z_st m2 g2 ∧ q_w v' = q_w v'' ∧ I L m2 g2) := fun v h => ⟨v, m, g, rfl, rfl, fun _ => rfl, rfl, h⟩
  refine y_186 ⟨hw, fun h0 => c_modulus' hC (y_186_5 (fin _ (y_295 ⟨hw, fun _ => n_p (I_nP hC.1 hR ⟨rfl, fun _ _ _ _ => rfl⟩) (y_295_4 (p_m rfl hI)), fun h => absurd h0 h⟩))), fun h0 => ⟨fun h1 => fin _ (y_295 ⟨hw, fun h => absurd h h0, fun _ => ⟨fun _ => p_m hR.1.2.1.symm hI, fun h => absurd h1 h⟩⟩), fun h1 => ⟨fun h2 => fin _ (y_295 ⟨hw, fun h => absurd h h0, fun _ => ⟨fun h => absurd h h1, fun _ => ⟨fun _ => p_m hR.1.2.2.1.symm hI, fun h => absurd h2 h⟩⟩⟩), fun h2 => ⟨fun h3 => fin _ (y_295 ⟨hw, fun h => absurd h h0, fun _ => ⟨fun h => absurd h h1, fun _ => ⟨fun h => absurd h h2, fun _ => ⟨fun _ => p_m hR.1.2.2.2.symm hI, fun h => absurd h3 h⟩⟩⟩⟩), fun h3 => ⟨fun h4 => fin _ (y_295 ⟨hw, fun h => absurd h h0, fun _ => ⟨fun h => absurd h h1, fun _ => ⟨fun h => absurd h h2, fun _ => ⟨fun h => absurd h h3, fun _ => ⟨fun _ => p_m hX.2.2.1.symm hI, fun h => absurd h4 h⟩⟩⟩⟩⟩), fun h4 => ⟨fun h5 => c_textLength (y_186_25 (fin _ (y_295 ⟨hw, fun h => absurd h h0, fun _ => ⟨fun h => absurd h h1, fun _ => ⟨fun h => absurd h h2, fun _ => ⟨fun h => absurd h h3, fun _ => ⟨fun h => absurd h h4, fun _ => ⟨fun _ => p_m hW.2.2.2.1.symm hI, fun h => absurd h5 h⟩⟩⟩⟩⟩⟩))), fun h5 => ⟨fun h6 => fin _ (y_295 ⟨hw, fun h => absurd h h0, fun _ => ⟨fun h => absurd h h1, fun _ => ⟨fun h => absurd h h2, fun _ => ⟨fun h => absurd h h3, fun _ => ⟨fun h => absurd h h4, fun _ => ⟨fun h => absurd h h5, fun _ => ⟨fun _ => p_m hSt.2.2.1.symm hI, fun h => absurd h6 h⟩⟩⟩⟩⟩⟩⟩), fun h6 => ⟨fun h7 => fin _ (y_295 ⟨hw, fun h => absurd h h0, fun _ => ⟨fun h => absurd h h1, fun _ => ⟨fun h => absurd h h2, fun _ => ⟨fun h => absurd h h3, fun _ => ⟨fun h => absurd h h4, fun _ => ⟨fun h => absurd h h5, fun _ => ⟨fun h => absurd h h6, fun _ => ⟨fun _ => p_m hF.2.2.1.symm hI, fun h => absurd h7 h⟩⟩⟩⟩⟩⟩⟩⟩), fun h7 => fin _ (y_295 ⟨hw, fun h => absurd h h0, fun _ => ⟨fun h => absurd h h1, fun _ => ⟨fun h => absurd h h2, fun _ => ⟨fun h => absurd h h3, fun _ => ⟨fun h => absurd h h4, fun _ => ⟨fun h => absurd h h5, fun _ => ⟨fun h => absurd h h6, fun _ => ⟨fun h => absurd h h7, fun _ => p_m rfl hI⟩⟩⟩⟩⟩⟩⟩⟩)⟩⟩⟩⟩⟩⟩⟩⟩
/-- a support of the state -/
def s_U (m : z_M) (a : Int) : Nat := (m 2 a.toNat).toNat
theorem s_U_V {m : z_M} {a : Int} (hV : i_V m) (h0 : 0 ≤ a) (h1 : a < m 1 1) : m 2 a.toNat = (s_U m a : Int) ∧ x_V (s_U m a) := by
  obtain ⟨S, e, hx⟩ := hV.2.2.2.2.1 a.toNat (by omega)
  unfold s_U
  rw [e]
  exact ⟨rfl, hx⟩
def r_ofU (m : z_M) (a w : Int) : Int := if 0 ≤ a ∧ a < m 1 1 then (if w = 0 then (s_U m a : Int) else if w = 1 then (x_many (s_U m a) : Int) else if w = 2 then (x_at (s_U m a) (x_many (s_U m a) - 1) : Int) - (x_at (s_U m a) 0 : Int) else if w = 3 then (x_step (s_U m a) : Int) else if w = 4 then ((x_at (s_U m a) (x_many (s_U m a) - 1) : Int) - (x_at (s_U m a) 0 : Int)) / (x_step (s_U m a) : Int) else if w = 5 then x_degree (s_U m a) else if w = 6 then (x_many (s_U m a) : Int) - 2 else -1) else -1
theorem c_Q_e {m m1 : z_M} (hT : i_T m) (hZ : i_Z m) (f : ∀ a j, (a < 63 ∨ 64 < a) → m1 a j = m a j) : c_Q m m1 := by
  refine ⟨fun a j ha => f a j (by omega), i_T_of (fun a j _ _ => f a j (by omega)) hT, ?_⟩
  show _ = _
  rw [f 72 12 (by omega)]
  exact hZ
theorem c_ofU {m : z_M} {g : z_g} {Q : q_V → q_S → Prop} {a w : Int} (ha : z_ok a) (hw : z_ok w) (hC : i_C m) (hZ : i_Z m) (kk : ∀ m', c_Q m m' → Q (.inl (r_ofU m a w)) (z_st m' g)) : z_C 23 [.inr (.inr 0), .inl a, .inl w] (z_st m g) Q := by
  have hV := hC.1
  have v1 := hV.2.1
  unfold r_ofU at kk
  refine y_23 (c_isSupportB ha hV (fun h0 h1 => y_23_3 ⟨(by unfold z_ok; omega), fun _ => ⟨⟨by omega, by omega⟩, ?_⟩, (fun h => absurd h (by omega))⟩) (fun h => y_23_3 ⟨(by unfold z_ok; omega), (fun h => absurd h (by omega)), fun _ => ?_⟩))
  · rw [if_pos ⟨h0, h1⟩] at kk
    obtain ⟨e, hx⟩ := s_U_V hV h0 h1
    have hx' := hx
    obtain ⟨x1, x2, x3⟩ := hx'
    rw [e]
    refine c_ebecome_a (by omega) x3 fun m1 f1 hE => y_23_14 ?_
    have k1 := kk m1 (c_Q_e hC.2.1 hZ f1)
    rw [f1 2 _ (by omega), e]
    refine ⟨hw, fun w0 => ⟨⟨by omega, by omega⟩, ?_⟩, fun w0 => ⟨fun w1 => ?_, fun w1 => ⟨fun w2 => c_span_a x3 hE (by omega) (y_23_29 ?_), fun w2 => ⟨fun w3 => c_step_a x3 hE (y_23_33 ?_), fun w3 => ⟨fun w4 => c_area_a hx hE (y_23_37 ?_), fun w4 => ⟨fun w5 => c_degree_a hx hE (y_23_41 ?_), fun w5 => ⟨fun w6 => c_rels_a x2 x3 hE (y_23_45 ?_), fun w6 => ?_⟩⟩⟩⟩⟩⟩⟩
    · rw [if_pos w0] at k1; exact k1
    · rw [if_neg w0, if_pos w1] at k1
      rw [hE.1]; exact k1
    · rw [if_neg w0, if_neg w1, if_pos w2] at k1; exact k1
    · rw [if_neg w0, if_neg w1, if_neg w2, if_pos w3] at k1; exact k1
    · rw [if_neg w0, if_neg w1, if_neg w2, if_neg w3, if_pos w4] at k1; exact k1
    · rw [if_neg w0, if_neg w1, if_neg w2, if_neg w3, if_neg w4, if_pos w5] at k1; exact k1
    · rw [if_neg w0, if_neg w1, if_neg w2, if_neg w3, if_neg w4, if_neg w5, if_pos w6] at k1; exact k1
    · rw [if_neg w0, if_neg w1, if_neg w2, if_neg w3, if_neg w4, if_neg w5, if_neg w6] at k1; exact k1
  · rw [if_neg h] at kk
    exact kk m (c_Q_refl hC.2.1 hZ)
theorem n_U {m m1 : z_M} {a : Int} (hV : i_V m) (hR : i_R m) (f : c_Q m m1) (h0 : 0 ≤ a) (h1 : a < m 1 1) : m1 133 a.toNat = (s_U m a : Int) := by
  have v1 := hV.2.1
  rw [f.1 133 _ (by omega), (hR.2.1 a.toNat (by omega)).1]
  exact (s_U_V hV h0 h1).1
theorem n_ofU {m m1 : z_M} {g : z_g} {Q : q_V → q_S → Prop} {a w : Int} (ha : z_ok a) (hw : z_ok w) (hV : i_V m) (hR : i_R m) (f : c_Q m m1) (kk : ∀ m', n_Q m1 m' → Q (.inl (r_ofU m a w)) (z_st m' g)) : z_C 194 [.inr (.inr 131), .inl a, .inl w] (z_st m1 g) Q := by
  have v1 := hV.2.1
  have k1 := kk m1 n_Q_refl
  unfold r_ofU at k1
  have e3 : m1 131 3 = m 1 1 := by rw [f.1 131 3 (by omega)]; exact hR.1.2.1
  refine y_194 (n_isSupport ha e3 v1 (fun h0 h1 => y_194_3 ⟨(by unfold z_ok; omega), fun _ => ⟨⟨by omega, by omega⟩, hw, ?_⟩, (fun h => absurd h (by omega))⟩) (fun h => y_194_3 ⟨(by unfold z_ok; omega), (fun h => absurd h (by omega)), fun _ => ?_⟩))
  · rw [if_pos ⟨h0, h1⟩] at k1
    rw [n_U hV hR f h0 h1]
    have hx := (s_U_V hV h0 h1).2
    have hx' := hx
    obtain ⟨x1, x2, x3⟩ := hx'
    have hst := x_step_pos hx
    have hle := x_at_le (S := s_U m a) (k := x_many (s_U m a) - 1) (by omega)
    refine ⟨fun w0 => ?_, fun w0 => ⟨fun w1 => n_many (by omega) (y_194_17 ?_), fun w1 => ⟨fun w2 => n_span (by omega) (by omega) (y_194_20 ?_), fun w2 => ⟨fun w3 => n_step (by omega) (by omega) (y_194_23 ?_), fun w3 => ⟨fun w4 => n_span (by omega) (by omega) (y_194_26 (n_step (by omega) (by omega) (y_194_28 ?_))), fun w4 => ⟨fun w5 => n_degree hx (y_194_32 ?_), fun w5 => ⟨fun w6 => n_many (by omega) (y_194_35 ?_), fun w6 => ?_⟩⟩⟩⟩⟩⟩⟩
    · rw [if_pos w0] at k1; exact k1
    · rw [if_neg w0, if_pos w1] at k1; exact k1
    · rw [if_neg w0, if_neg w1, if_pos w2] at k1; exact k1
    · rw [if_neg w0, if_neg w1, if_neg w2, if_pos w3] at k1; exact k1
    · rw [if_neg w0, if_neg w1, if_neg w2, if_neg w3, if_pos w4] at k1; exact ⟨by unfold z_dv; omega, k1⟩
    · rw [if_neg w0, if_neg w1, if_neg w2, if_neg w3, if_neg w4, if_pos w5] at k1; exact k1
    · rw [if_neg w0, if_neg w1, if_neg w2, if_neg w3, if_neg w4, if_neg w5, if_pos w6] at k1; exact k1
    · rw [if_neg w0, if_neg w1, if_neg w2, if_neg w3, if_neg w4, if_neg w5, if_neg w6] at k1; exact k1
  · rw [if_neg h] at k1
    exact k1
theorem p_ofU {L : Nat} {m : z_M} {g : z_g} {a w : Int} (hI : I L m g) (ha : z_ok a) (hw : z_ok w) : z_pI (I L) 23 194 [.inl a, .inl w] m g :=
  p_pair (r_ofU m a w) hI (fun Q kk => c_ofU ha hw hI.2.2.2.1 hI.2.2.2.2.1 kk) (fun m1 f1 Q kk => n_ofU ha hw hI.2.2.2.1.1 hI.2.2.2.2.2.1 f1 kk)
/-! relation -/
def s_hasU (m : z_M) (a i e : Int) : Prop := (0 ≤ a ∧ a < m 1 1) ∧ (0 ≤ i ∧ i + 2 < x_many (s_U m a)) ∧ 0 ≤ e ∧ e ≤ 12 ∧ (s_U m a).testBit e.toNat = true
def r_relU (m : z_M) (a i e : Int) [Decidable (s_hasU m a i e)] : Int := if s_hasU m a i e then 100 + x_rel (s_U m a) i.toNat (x_pre (s_U m a) e.toNat).length else -1
theorem x_at_uniq {S k e : Nat} (hk : k < x_many S) (h : x_at S k = e) : e < 13 ∧ S.testBit e = true ∧ (x_pre S e).length = k := by
  obtain ⟨h1, h2⟩ := x_at_mem hk
  rw [h] at h1 h2
  exact ⟨h1, h2, x_at_inj (x_pre_lt h1 h2) hk (by rw [x_at_of h1 h2 rfl, h])⟩
theorem c_relU {m : z_M} {g : z_g} {Q : q_V → q_S → Prop} {a i e : Int} [Decidable (s_hasU m a i e)] (ha : z_ok a) (hi : z_ok i) (he : z_ok e) (hC : i_C m) (hZ : i_Z m) (kk : ∀ m', c_Q m m' → Q (.inl (r_relU m a i e)) (z_st m' g)) : z_C 36 [.inr (.inr 0), .inl a, .inl i, .inl e] (z_st m g) Q := by
  have hV := hC.1
  have v1 := hV.2.1
  unfold r_relU at kk
  refine y_36 (c_isSupportB ha hV (fun h0 h1 => y_36_3 ⟨(by unfold z_ok; omega), fun _ => ⟨⟨by omega, by omega⟩, ?_⟩, (fun h => absurd h (by omega))⟩) (fun h => y_36_3 ⟨(by unfold z_ok; omega), (fun h => absurd h (by omega)), fun _ => ?_⟩))
  · obtain ⟨eS, hx⟩ := s_U_V hV h0 h1
    have hx' := hx
    obtain ⟨x1, x2, x3⟩ := hx'
    rw [eS]
    refine c_ebecome_a (by omega) x3 fun m1 f1 hE => y_36_14 ?_
    have k1 := kk m1 (c_Q_e hC.2.1 hZ f1)
    refine c_place_a x3 hE he (fun k hk ek => y_36_18 ⟨hi, fun h => ?_, fun h2 => c_rels_a x2 x3 hE (y_36_25 ⟨by unfold z_ok at hi; unfold z_ok2; omega, fun h => ?_, fun h3 => ⟨(by unfold z_ok; omega), fun _ => c_rel_a x3 hE h2 (by omega) (by omega) (by omega) (y_36_36 ?_), (fun h => absurd h (by omega))⟩⟩)⟩) (fun hno => y_36_18 ⟨hi, fun h => ?_, fun h2 => c_rels_a x2 x3 hE (y_36_25 ⟨by unfold z_ok at hi; unfold z_ok2; omega, fun h => ?_, fun h3 => ⟨(by unfold z_ok; omega), (fun h => absurd h (by omega)), fun _ => ?_⟩⟩)⟩)
    · rw [if_neg (fun hh => by have := hh.2.1; omega)] at k1; exact k1
    · rw [if_neg (fun hh => by have := hh.2.1; omega)] at k1; exact k1
    · have q := x_at_mem hk
      obtain ⟨u1, u2, u3⟩ := x_at_uniq (e := e.toNat) hk (by omega)
      rw [if_pos ⟨⟨h0, h1⟩, ⟨h2, by omega⟩, by omega, by omega, u2⟩, u3] at k1
      rw [show ((k : Int)).toNat = k by omega]
      exact k1
    · rw [if_neg (fun hh => by have := hh.2.1; omega)] at k1; exact k1
    · rw [if_neg (fun hh => by have := hh.2.1; omega)] at k1; exact k1
    · rw [if_neg (fun hh => ?_)] at k1
      · exact k1
      · obtain ⟨-, -, e0, e1, hb⟩ := hh
        obtain ⟨k, hk, ek⟩ := x_at_ex (S := s_U m a) (e := e.toNat) (by omega) hb
        exact hno k hk (by omega)
  · rw [if_neg (fun hh => h hh.1)] at kk
    exact kk m (c_Q_refl hC.2.1 hZ)
theorem n_relU {m m1 : z_M} {g : z_g} {Q : q_V → q_S → Prop} {a i e : Int} [Decidable (s_hasU m a i e)] (ha : z_ok a) (hi : z_ok i) (he : z_ok e) (hV : i_V m) (hR : i_R m) (f : c_Q m m1) (kk : ∀ m', n_Q m1 m' → Q (.inl (r_relU m a i e)) (z_st m' g)) : z_C 203 [.inr (.inr 131), .inl a, .inl i, .inl e] (z_st m1 g) Q := by
  have v1 := hV.2.1
  have k1 := kk m1 n_Q_refl
  unfold r_relU at k1
  have e3 : m1 131 3 = m 1 1 := by rw [f.1 131 3 (by omega)]; exact hR.1.2.1
  refine y_203 (n_isSupport ha e3 v1 (fun h0 h1 => y_203_3 ⟨(by unfold z_ok; omega), (fun h => absurd h (by omega)), fun _ => ⟨⟨by omega, by omega⟩, ?_⟩⟩) (fun h => y_203_3 ⟨(by unfold z_ok; omega), fun _ => ?_, (fun h => absurd h (by omega))⟩))
  · rw [n_U hV hR f h0 h1]
    obtain ⟨x1, x2, x3⟩ := (s_U_V hV h0 h1).2
    refine n_many (by omega) (y_203_11 (n_isIn hi (by unfold z_ok; omega) (by unfold z_ok; omega) (fun h2 h3 => y_203_14 ⟨(by unfold z_ok; omega), (fun h => absurd h (by omega)), fun _ => ⟨⟨by omega, by omega⟩, ?_⟩⟩) (fun h => y_203_14 ⟨(by unfold z_ok; omega), fun _ => ?_, (fun h => absurd h (by omega))⟩)))
    · rw [n_U hV hR f h0 h1]
      refine n_has (by omega) he (fun e0 e1 hb => y_203_21 ⟨(by unfold z_ok; omega), fun _ => ⟨⟨by omega, by omega⟩, ?_⟩, (fun h => absurd h (by omega))⟩) (fun h => y_203_21 ⟨(by unfold z_ok; omega), (fun h => absurd h (by omega)), fun _ => ?_⟩)
      · rw [n_U hV hR f h0 h1]
        obtain ⟨k, hk, ek⟩ := x_at_ex (S := s_U m a) (e := e.toNat) (by omega) hb
        obtain ⟨u1, u2, u3⟩ := x_at_uniq hk ek
        rw [if_pos ⟨⟨h0, h1⟩, ⟨h2, by omega⟩, e0, e1, hb⟩, u3] at k1
        rw [show e = (x_at (s_U m a) k : Int) by omega]
        exact n_relationOf (by omega) h2 (by omega) hk (y_203_32 k1)
      · rw [if_neg (fun hh => h hh.2.2)] at k1; exact k1
    · rw [if_neg (fun hh => by have := hh.2.1; omega)] at k1; exact k1
  · rw [if_neg (fun hh => h hh.1)] at k1
    exact k1
theorem p_relation {L : Nat} {m : z_M} {g : z_g} {a i e : Int} (hI : I L m g) (ha : z_ok a) (hi : z_ok i) (he : z_ok e) : z_pI (I L) 36 203 [.inl a, .inl i, .inl e] m g :=
  have := Classical.propDecidable (s_hasU m a i e)
  p_pair (r_relU m a i e) hI (fun Q kk => c_relU ha hi he hI.2.2.2.1 hI.2.2.2.2.1 kk) (fun m1 f1 Q kk => n_relU ha hi he hI.2.2.2.1.1 hI.2.2.2.2.2.1 f1 kk)
/-! a new sum -/
theorem n_newSum {m : z_M} {g : z_g} {Q : q_V → q_S → Prop} {n : Int} {a b c : Int} (e8 : m 131 8 = n) (h0 : 0 ≤ n) (h6 : n < 6) (kk : ∀ m', (∀ x j, ¬ ((x = 134 ∨ x = 135 ∨ x = 136) ∧ j = n.toNat) → ¬ (x = 137 ∧ 13 * n.toNat ≤ j ∧ j < 13 * n.toNat + 13) → ¬ (x = 131 ∧ j = 8) → m' x j = m x j) → m' 134 n.toNat = a → m' 135 n.toNat = b → m' 136 n.toNat = c → (∀ e, e < 13 → m' 137 (13 * n.toNat + e) = 0) → m' 131 8 = n + 1 → Q (.inl n) (z_st m' g)) : z_C 207 [.inr (.inr 131), .inl a, .inl b, .inl c] (z_st m g) Q := by
  have loop : ∀ (k e : Nat) (ei : Int) (m2 : z_M), 13 - e = k → ei = (e : Int) → e ≤ 13 → (∀ x j, ¬ ((x = 134 ∨ x = 135 ∨ x = 136) ∧ j = n.toNat) → ¬ (x = 137 ∧ 13 * n.toNat ≤ j ∧ j < 13 * n.toNat + 13) → m2 x j = m x j) → m2 134 n.toNat = a → m2 135 n.toNat = b → m2 136 n.toNat = c → (∀ j, j < e → m2 137 (13 * n.toNat + j) = 0) → z_T 207 20 [.inr (.inr 131), .inl a, .inl b, .inl c, .inl ei] [] (z_st m2 g) Q := by
    intro k
    induction k with
    | zero =>
      intro e ei m2 hd hei hen q1 q2 q3 q4 q5
      have e8' : m2 131 8 = n := by rw [q1 131 8 (by omega) (by omega)]; exact e8
      refine y_207_20 ⟨(by unfold z_ok2; omega), fun _ => ?_, (fun h => absurd h (by omega))⟩
      rw [e8', show n + 1 - 1 = n by omega]
      exact kk _ (fun x j h1 h2 h3 => by rw [z_un (by omega)]; exact q1 x j h1 h2) (by rw [z_un (by omega)]; exact q2) (by rw [z_un (by omega)]; exact q3) (by rw [z_un (by omega)]; exact q4) (fun j hj => by rw [z_un (by omega)]; exact q5 j (by omega)) (z_ue rfl rfl)
    | succ k ih =>
      intro e ei m2 hd hei hen q1 q2 q3 q4 q5
      have e8' : m2 131 8 = n := by rw [q1 131 8 (by omega) (by omega)]; exact e8
      refine y_207_20 ⟨(by unfold z_ok2; omega), (fun h => absurd h (by omega)), fun _ => ?_⟩
      rw [e8']
      refine ⟨⟨by omega, by omega⟩, ih (e + 1) (ei + 1) _ (by omega) (by omega) (by omega) (fun x j h2 h3 => by rw [z_un (by omega)]; exact q1 x j h2 h3) (by rw [z_un (by omega)]; exact q2) (by rw [z_un (by omega)]; exact q3) (by rw [z_un (by omega)]; exact q4) (fun j hj => ?_)⟩
      by_cases hje : j = e
      · rw [hje, z_ue rfl (by omega)]
      · rw [z_un (by omega)]; exact q5 j (by omega)
  refine y_207 ?_
  rw [e8]
  exact ⟨⟨by omega, by omega⟩, ⟨by omega, by omega⟩, ⟨by omega, by omega⟩, loop 13 0 0 _ rfl rfl (by omega) (fun x j h1 h2 => by rw [z_un (by omega), z_un (by omega), z_un (by omega)]) (by rw [z_un (by omega), z_un (by omega), z_ue rfl rfl]) (by rw [z_un (by omega), z_ue rfl rfl]) (z_ue rfl rfl) (fun j hj => absurd hj (by omega))⟩
theorem c_newSum {m : z_M} {g : z_g} {Q : q_V → q_S → Prop} {n : Int} {a b c : Int} (e8 : m 1 3 = n) (h0 : 0 ≤ n) (h6 : n < 6) (kk : ∀ m', (∀ x j, ¬ ((x = 3 ∨ x = 4 ∨ x = 5) ∧ j = n.toNat) → ¬ (x = 7 + n.toNat ∧ j < 13) → ¬ (x = 1 ∧ j = 3) → m' x j = m x j) → m' 3 n.toNat = a → m' 4 n.toNat = b → m' 5 n.toNat = c → (∀ e, e < 13 → m' (7 + n.toNat) e = 0) → m' 1 3 = n + 1 → Q (.inl n) (z_st m' g)) : z_C 42 [.inr (.inr 1), .inl a, .inl b, .inl c] (z_st m g) Q := by
  refine y_42 ?_
  rw [e8]
  refine ⟨(by unfold z_ok2; omega), fun _ => ⟨⟨by omega, by omega⟩, ⟨by omega, by omega⟩, ⟨by omega, by omega⟩, z_rw6 h0 h6, ⟨by omega, trivial⟩, c_fillI (n := 13) (by omega) (z_sp6 (t := g.2.2.1) h6).2 (by decide) (y_42_33 ?_)⟩, (fun h => absurd h (by omega))⟩
  have q : ∀ x j, ¬ ((x = 3 ∨ x = 4 ∨ x = 5) ∧ j = n.toNat) → ¬ (x = 7 + n.toNat ∧ j < 13) → f_fill (q_upd (q_upd (q_upd m 3 n.toNat a) 4 n.toNat b) 5 n.toNat c) (7 + n.toNat) 13 0 x j = m x j := fun x j h1 h2 => by
    unfold f_fill
    rw [if_neg (by omega), z_un (by omega), z_un (by omega), z_un (by omega)]
  have q1 : f_fill (q_upd (q_upd (q_upd m 3 n.toNat a) 4 n.toNat b) 5 n.toNat c) (7 + n.toNat) 13 0 3 n.toNat = a := by
    unfold f_fill
    rw [if_neg (by omega), z_un (by omega), z_un (by omega), z_ue rfl rfl]
  have q2 : f_fill (q_upd (q_upd (q_upd m 3 n.toNat a) 4 n.toNat b) 5 n.toNat c) (7 + n.toNat) 13 0 4 n.toNat = b := by
    unfold f_fill
    rw [if_neg (by omega), z_un (by omega), z_ue rfl rfl]
  have q3 : f_fill (q_upd (q_upd (q_upd m 3 n.toNat a) 4 n.toNat b) 5 n.toNat c) (7 + n.toNat) 13 0 5 n.toNat = c := by
    unfold f_fill
    rw [if_neg (by omega), z_ue rfl rfl]
  have q4 : ∀ e, e < 13 → f_fill (q_upd (q_upd (q_upd m 3 n.toNat a) 4 n.toNat b) 5 n.toNat c) (7 + n.toNat) 13 0 (7 + n.toNat) e = 0 := fun e he => by
    unfold f_fill
    rw [if_pos ⟨rfl, he⟩]
  generalize f_fill (q_upd (q_upd (q_upd m 3 n.toNat a) 4 n.toNat b) 5 n.toNat c) (7 + n.toNat) 13 0 = m1 at q q1 q2 q3 q4
  rw [show m1 1 3 = n by rw [q 1 3 (by omega) (by omega)]; exact e8, show n + 1 - 1 = n by omega]
  exact kk _ (fun x j h1 h2 h3 => by rw [z_un (by omega)]; exact q x j h1 h2) (by rw [z_un (by omega)]; exact q1) (by rw [z_un (by omega)]; exact q2) (by rw [z_un (by omega)]; exact q3) (fun e he => by rw [z_un (by omega)]; exact q4 e he) (z_ue rfl rfl)
/-- both have put a sum (support a, kind b, figure c, numbers T) at the end -/
theorem I_newSum {L : Nat} {m m4 : z_M} {g : z_g} {n a b c : Int} {T : Nat → Int} (hI : I L m g) (en : m 1 3 = n) (hn : n < 6) (ha : 0 ≤ a ∧ a < m 1 1) (hb : 0 ≤ b ∧ b ≤ 5) (hc : 0 ≤ c ∧ c ≤ 9) (hTr : ∀ e, e ≤ 12 → 0 ≤ T e ∧ T e ≤ 99) (F : ∀ x j, ¬ z_scr x j → ¬ ((x = 3 ∨ x = 4 ∨ x = 5 ∨ x = 134 ∨ x = 135 ∨ x = 136) ∧ j = n.toNat) → ¬ (x = 7 + n.toNat) → ¬ (x = 137 ∧ 13 * n.toNat ≤ j ∧ j < 13 * n.toNat + 13) → ¬ (x = 1 ∧ j = 3) → ¬ (x = 131 ∧ (j = 8 ∨ j = 41)) → ¬ (x = 109 ∧ j = 0) → m4 x j = m x j) (hT : i_T m4) (hZ : i_Z m4) (w1 : m4 3 n.toNat = a ∧ m4 134 n.toNat = a) (w2 : m4 4 n.toNat = b ∧ m4 135 n.toNat = b) (w3 : m4 5 n.toNat = c ∧ m4 136 n.toNat = c) (w4 : ∀ e, e < 13 → m4 (7 + n.toNat) e = T e ∧ m4 137 (13 * n.toNat + e) = T e) (w5 : m4 1 3 = n + 1 ∧ m4 131 8 = n + 1) (w6 : m4 109 0 = 0 ∧ m4 131 41 = 0) : I L m4 g := by
  have hh := hI
  obtain ⟨hg, hSc, hD, ⟨hV, -, hP⟩, -, hR, hK, hSt, hL, hX, hW, hF⟩ := hh
  have h0 : 0 ≤ n := by have := hV.2.2.1; omega
  unfold z_scr at F
  refine I_gen hI (fun x j h => by unfold z_chg z_scr z_sts at h; exact F x j (by omega) (by omega) (by omega) (by omega) (by omega) (by omega) (by omega)) ?_ hT hZ ?_ (i_St_0 w6.1 w6.2)
  · obtain ⟨g1, g2, g3, g4, g5, g6, g7⟩ := hV
    unfold i_V
    rw [F 1 0 (by omega) (by omega) (by omega) (by omega) (by omega) (by omega) (by omega), F 1 1 (by omega) (by omega) (by omega) (by omega) (by omega) (by omega) (by omega), w5.1, F 1 8 (by omega) (by omega) (by omega) (by omega) (by omega) (by omega) (by omega)]
    refine ⟨g1, g2, by omega, g4, fun i hi => ?_, fun t ht => ?_, fun i hi => ?_⟩
    · rw [F 2 i (by omega) (by omega) (by omega) (by omega) (by omega) (by omega) (by omega)]; exact g5 i hi
    · by_cases hti : t = n.toNat
      · rw [hti, w1.1, w2.1, w3.1]
        refine ⟨ha.1, ha.2, hb.1, hb.2, hc.1, hc.2, fun e he => ?_⟩
        rw [(w4 e (by omega)).1]
        exact hTr e he
      · rw [F 3 t (by omega) (by omega) (by omega) (by omega) (by omega) (by omega) (by omega), F 4 t (by omega) (by omega) (by omega) (by omega) (by omega) (by omega) (by omega), F 5 t (by omega) (by omega) (by omega) (by omega) (by omega) (by omega) (by omega)]
        obtain ⟨k1, k2, k3, k4, k5, k6, k7⟩ := g6 t (by omega)
        refine ⟨k1, k2, k3, k4, k5, k6, fun i hi => ?_⟩
        rw [F (7 + t) i (by omega) (by omega) (by omega) (by omega) (by omega) (by omega) (by omega)]; exact k7 i hi
    · rw [F 13 i (by omega) (by omega) (by omega) (by omega) (by omega) (by omega) (by omega), F 14 i (by omega) (by omega) (by omega) (by omega) (by omega) (by omega) (by omega)]; exact g7 i hi
  · obtain ⟨⟨a1, a2, a3, a4⟩, b', c', d', e'⟩ := hR
    refine ⟨⟨?_, ?_, ?_, ?_⟩, fun i hi => ?_, fun t k ht hk => ?_, fun i hi => ?_, fun j hj => ?_⟩
    · rw [F 131 1 (by omega) (by omega) (by omega) (by omega) (by omega) (by omega) (by omega), F 1 0 (by omega) (by omega) (by omega) (by omega) (by omega) (by omega) (by omega)]; exact a1
    · rw [F 131 3 (by omega) (by omega) (by omega) (by omega) (by omega) (by omega) (by omega), F 1 1 (by omega) (by omega) (by omega) (by omega) (by omega) (by omega) (by omega)]; exact a2
    · rw [w5.1, w5.2]
    · rw [F 131 28 (by omega) (by omega) (by omega) (by omega) (by omega) (by omega) (by omega), F 1 8 (by omega) (by omega) (by omega) (by omega) (by omega) (by omega) (by omega)]; exact a4
    · rw [F 133 i (by omega) (by omega) (by omega) (by omega) (by omega) (by omega) (by omega), F 2 i (by omega) (by omega) (by omega) (by omega) (by omega) (by omega) (by omega)]
      by_cases hti : i = n.toNat
      · rw [hti, w1.1, w1.2, w2.1, w2.2, w3.1, w3.2]; exact ⟨(b' _ (by omega)).1, rfl, rfl, rfl⟩
      · rw [F 134 i (by omega) (by omega) (by omega) (by omega) (by omega) (by omega) (by omega), F 135 i (by omega) (by omega) (by omega) (by omega) (by omega) (by omega) (by omega), F 136 i (by omega) (by omega) (by omega) (by omega) (by omega) (by omega) (by omega), F 3 i (by omega) (by omega) (by omega) (by omega) (by omega) (by omega) (by omega), F 4 i (by omega) (by omega) (by omega) (by omega) (by omega) (by omega) (by omega), F 5 i (by omega) (by omega) (by omega) (by omega) (by omega) (by omega) (by omega)]; exact b' i hi
    · by_cases hti : t = n.toNat
      · rw [hti, (w4 k hk).1, (w4 k hk).2]
      · rw [F 137 _ (by omega) (by omega) (by omega) (by omega) (by omega) (by omega) (by omega), F (7 + t) k (by omega) (by omega) (by omega) (by omega) (by omega) (by omega) (by omega)]; exact c' t k ht hk
    · rw [F 151 i (by omega) (by omega) (by omega) (by omega) (by omega) (by omega) (by omega), F 152 i (by omega) (by omega) (by omega) (by omega) (by omega) (by omega) (by omega), F 13 i (by omega) (by omega) (by omega) (by omega) (by omega) (by omega) (by omega), F 14 i (by omega) (by omega) (by omega) (by omega) (by omega) (by omega) (by omega)]; exact d' i hi
    · rw [F 132 j (by omega) (by omega) (by omega) (by omega) (by omega) (by omega) (by omega)]; exact e' j hj
theorem p_sum {L : Nat} {m : z_M} {g : z_g} {a k f : Int} (hI : I L m g) (ha : z_ok a) (hk : z_ok k) (hf : z_ok f) : z_pI (I L) 39 206 [.inl a, .inl k, .inl f] m g := by
  have hh := hI
  obtain ⟨hg, hSc, hD, ⟨hV, hT, hP⟩, hZ, hR, hK, hSt, hL, hX, hW, hF⟩ := hh
  have v1 := hV.2.1
  have v3 := hV.2.2.1
  have e3 : m 131 3 = m 1 1 := hR.1.2.1
  have e8 : m 131 8 = m 1 3 := hR.1.2.2.1
  have hk' := hk
  have hf' := hf
  unfold z_ok at hk' hf'
  have mod : ∀ (m1 : z_M) (Q : q_V → q_S → Prop), m1 131 3 = m 1 1 → (0 ≤ a ∧ a < m 1 1) → (0 ≤ k ∧ k < 6) → z_T 206 8 [.inr (.inr 131), .inl a, .inl k, .inl f] [.inl 1] (z_st m1 g) Q → z_C 206 [.inr (.inr 131), .inl a, .inl k, .inl f] (z_st m1 g) Q := fun m1 Q e3' h0 h1 h =>
    y_206 (n_isSupport ha e3' v1 (fun _ _ => y_206_3 ⟨(by unfold z_ok; omega), (fun h => absurd h (by omega)), fun _ => n_isIn hk (by unfold z_ok; omega) (by unfold z_ok; omega) (fun _ _ => h) (fun h => absurd ⟨h1.1, by omega⟩ h)⟩) (fun h => absurd h0 h))
  refine y_39 (c_isSupportB ha hV (fun h0 h1 => y_39_3 ⟨(by unfold z_ok; omega), (fun h => absurd h (by omega)), fun _ => c_isKind hk ?_⟩) (fun h => y_39_3 ⟨(by unfold z_ok; omega), fun _ => ⟨-1, m, g, rfl, rfl, fun _ => rfl, rfl, y_206 (n_isSupport ha e3 v1 (fun h0 h1 => absurd ⟨h0, h1⟩ h) (fun _ => y_206_3 ⟨(by unfold z_ok; omega), fun _ => p_m rfl hI, (fun h => absurd h (by omega))⟩))⟩, (fun h => absurd h (by omega))⟩))
  by_cases hk6 : 0 ≤ k ∧ k < 6
  · rw [if_pos hk6]
    refine y_39_6 ⟨(by unfold z_ok; omega), fun _ => c_isFigure hf ?_, (fun h => absurd h (by omega))⟩
    by_cases hf9 : 0 ≤ f ∧ f ≤ 9
    · rw [if_pos hf9]
      refine y_39_11 ⟨(by unfold z_ok; omega), fun _ => ⟨(by unfold z_ok2; omega), fun hl => c_clear (y_39_24 (c_newSum (n := m 1 3) (z_un (by omega)) v3.1 hl fun m1 f1 w1 w2 w3 w4 w5 => y_39_30 ?_)), fun hfull => ⟨-4, m, g, rfl, rfl, fun _ => rfl, rfl, mod m _ e3 ⟨h0, h1⟩ hk6 (y_206_8 ⟨(by unfold z_ok; omega), fun _ => n_isIn hf (by unfold z_ok; omega) (by unfold z_ok; omega) (fun _ _ => y_206_15 ⟨(by unfold z_ok; omega), fun _ => ⟨(by unfold z_ok2; omega), (fun h => absurd h (by omega)), fun _ => p_m rfl hI⟩, (fun h => absurd h (by omega))⟩) (fun h => absurd hf9 h), (fun h => absurd h (by omega))⟩)⟩⟩, (fun h => absurd h (by omega))⟩
      have f1' : ∀ x j, ¬ ((x = 3 ∨ x = 4 ∨ x = 5) ∧ j = (m 1 3).toNat) → ¬ (x = 7 + (m 1 3).toNat ∧ j < 13) → ¬ (x = 1 ∧ j = 3) → ¬ (x = 109 ∧ j = 0) → m1 x j = m x j := fun x j q1 q2 q3 q4 => by rw [f1 x j q1 q2 q3, z_un q4]
      have e8' : m1 131 8 = m 1 3 := by rw [f1' 131 8 (by omega) (by omega) (by omega) (by omega)]; exact e8
      refine ⟨m 1 3, m1, g, rfl, rfl, fun j => f1' 1001 j (by omega) (by omega) (by omega) (by omega), rfl, mod m1 _ (by rw [f1' 131 3 (by omega) (by omega) (by omega) (by omega)]; exact e3) ⟨h0, h1⟩ hk6 (y_206_8 ⟨(by unfold z_ok; omega), fun _ => n_isIn hf (by unfold z_ok; omega) (by unfold z_ok; omega) (fun _ _ => y_206_15 ⟨(by unfold z_ok; omega), fun _ => ⟨(by unfold z_ok2; omega), fun _ => n_newSum (n := m 1 3) (by rw [z_un (by omega)]; exact e8') v3.1 hl fun m2 f2 u1 u2 u3 u4 u5 => y_206_32 ?_, (fun h => absurd h (by omega))⟩, (fun h => absurd h (by omega))⟩) (fun h => absurd hf9 h), (fun h => absurd h (by omega))⟩)⟩
      have F : ∀ x j, ¬ ((x = 3 ∨ x = 4 ∨ x = 5 ∨ x = 134 ∨ x = 135 ∨ x = 136) ∧ j = (m 1 3).toNat) → ¬ (x = 7 + (m 1 3).toNat) → ¬ (x = 137 ∧ 13 * (m 1 3).toNat ≤ j ∧ j < 13 * (m 1 3).toNat + 13) → ¬ (x = 1 ∧ j = 3) → ¬ (x = 131 ∧ (j = 8 ∨ j = 41)) → ¬ (x = 109 ∧ j = 0) → m2 x j = m x j := fun x j q1 q2 q3 q4 q5 q6 => by rw [f2 x j (by omega) (by omega) (by omega), z_un (by omega), f1' x j (by omega) (by omega) (by omega) (by omega)]
      have G : ∀ x j, x < 131 → m2 x j = m1 x j := fun x j q1 => by rw [f2 x j (by omega) (by omega) (by omega), z_un (by omega)]
      refine p_m rfl (I_newSum (T := fun _ => 0) hI rfl hl ⟨h0, h1⟩ ⟨hk6.1, by omega⟩ hf9 (fun _ _ => ⟨by omega, by omega⟩) (fun x j _ => F x j) (i_T_of (fun x j _ _ => F x j (by omega) (by omega) (by omega) (by omega) (by omega) (by omega)) hT) (by show _ = _; rw [F 72 12 (by omega) (by omega) (by omega) (by omega) (by omega) (by omega)]; exact hZ) ⟨by rw [G 3 _ (by omega)]; exact w1, u1⟩ ⟨by rw [G 4 _ (by omega)]; exact w2, u2⟩ ⟨by rw [G 5 _ (by omega)]; exact w3, u3⟩ (fun e he => ⟨by rw [G _ _ (by omega)]; exact w4 e he, u4 e he⟩) ⟨by rw [G _ _ (by omega)]; exact w5, u5⟩ ⟨?_, ?_⟩)
      · rw [G _ _ (by omega), f1 109 0 (by omega) (by omega) (by omega), z_ue rfl rfl]
      · rw [f2 131 41 (by omega) (by omega) (by omega), z_ue rfl rfl]
    · rw [if_neg hf9]
      exact y_39_11 ⟨(by unfold z_ok; omega), (fun h => absurd h (by omega)), fun _ => ⟨-2, m, g, rfl, rfl, fun _ => rfl, rfl, mod m _ e3 ⟨h0, h1⟩ hk6 (y_206_8 ⟨(by unfold z_ok; omega), fun _ => n_isIn hf (by unfold z_ok; omega) (by unfold z_ok; omega) (fun h2 h3 => absurd ⟨h2, h3⟩ hf9) (fun _ => y_206_15 ⟨(by unfold z_ok; omega), (fun h => absurd h (by omega)), fun _ => p_m rfl hI⟩), (fun h => absurd h (by omega))⟩)⟩⟩
  · rw [if_neg hk6]
    exact y_39_6 ⟨(by unfold z_ok; omega), (fun h => absurd h (by omega)), fun _ => ⟨-1, m, g, rfl, rfl, fun _ => rfl, rfl, y_206 (n_isSupport ha e3 v1 (fun _ _ => y_206_3 ⟨(by unfold z_ok; omega), (fun h => absurd h (by omega)), fun _ => n_isIn hk (by unfold z_ok; omega) (by unfold z_ok; omega) (fun h2 h3 => absurd ⟨h2, by omega⟩ hk6) (fun _ => y_206_8 ⟨(by unfold z_ok; omega), (fun h => absurd h (by omega)), fun _ => p_m rfl hI⟩)⟩) (fun h => absurd ⟨h0, h1⟩ h))⟩⟩
