/-! PAIRS: the matrix, the resultant, the form -/
theorem x_span {S : Nat} (hS : x_V S) : 1 ≤ x_at S (x_many S - 1) - x_at S 0 ∧ x_at S (x_many S - 1) - x_at S 0 ≤ 12 ∧ (x_at S (x_many S - 1) : Int) - (x_at S 0 : Int) = ((x_at S (x_many S - 1) - x_at S 0 : Nat) : Int) := by
  have h2 := hS.2.1
  have hl := x_at_le (S := S) (k := x_many S - 1) (by omega)
  have hlt := x_at_lt (S := S) (i := 0) (j := x_many S - 1) (by omega) (by omega)
  omega
theorem l_D_12 {p : Int} {S : Nat} {N : Nat → Int} (hN : x_N p S N) : l_D p (l_N S N) 12 = 0 := by
  unfold l_D l_N
  rw [hN.2 _ (Or.inl (by omega)), Int.mul_zero]
  exact Int.zero_emod _
theorem c_resT {m : z_M} {g : z_g} {Q : q_V → q_S → Prop} {p : Int} {S : Nat} {N : Nat → Int} (hS : x_V S) (hT : t_TT m p S N) (hN : x_N p S N) (hz : m 72 12 = 0) (kk : ∀ m', t_sam 69 108 m m' → m' 72 12 = 0 → Q (.inl (r_res p S N)) (z_st m' g)) : z_C 84 [.inr (.inr 0)] (z_st m g) Q := by
  obtain ⟨s1, s2, s3⟩ := x_span hS
  refine y_84 (c_lowered hS hT hN hz fun m2 f2 g1 g2 g3 => y_84_5 ?_)
  refine c_mbecome g2 g3 (by rw [g1, s3]) s1 s2 fun m3 f3 k1 k2 => y_84_10 ?_
  have hF2 := (t_T_sam hT (by decide) f2).1
  have hF3 : t_F m3 p := t_F_sam hF2 (by decide) (b := 75) (h := 99) f3
  refine c_determinant hF3 (by omega) k1 k2 (x_cell_MR (n := 0) hT.1.1 (l_N_R hN) (l_D_R hT.1.1) s2) fun m4 f4 => y_84_13 (kk m4 ?_ ?_)
  · intro a j ha
    rw [f4 a j (by omega), f3 a j (by omega), f2 a j (by omega)]
  · rw [f4 72 12 (by omega), f3 72 12 (by omega), g3 12 (by decide)]
    exact l_D_12 hN
/-! row -/
def r_row (m : z_M) (s i j : Int) : Int := if (0 ≤ s ∧ s < m 1 3) ∧ (0 ≤ i ∧ i < 2 * ((x_at (s_S m s) (x_many (s_S m s) - 1) - x_at (s_S m s) 0 : Nat) : Int) - 1) ∧ 0 ≤ j ∧ j < 2 * ((x_at (s_S m s) (x_many (s_S m s) - 1) - x_at (s_S m s) 0 : Nat) : Int) - 1 then x_cell (l_N (s_S m s) (s_N m s)) (l_D (s_p m) (l_N (s_S m s) (s_N m s))) (x_at (s_S m s) (x_many (s_S m s) - 1) - x_at (s_S m s) 0) i.toNat j.toNat else -1
theorem c_row {m : z_M} {g : z_g} {Q : q_V → q_S → Prop} {s i j : Int} (hs : z_ok s) (hi : z_ok i) (hj : z_ok j) (hC : i_C m) (hZ : i_Z m) (kk : ∀ m', c_Q m m' → Q (.inl (r_row m s i j)) (z_st m' g)) : z_C 79 [.inr (.inr 0), .inl s, .inl i, .inl j] (z_st m g) Q := by
  have hV := hC.1
  have hN := s_N_N (s := s) hV
  have k0 := kk m (c_Q_refl hC.2.1 hZ)
  unfold r_row at kk k0
  refine y_79 (c_isSumB hs hV (fun h0 h1 => y_79_3 ⟨(by unfold z_ok; omega), fun _ => ?_, fun h => absurd h (by decide)⟩) (fun hn => y_79_3 ⟨(by unfold z_ok; omega), fun h => absurd rfl h, fun _ => ?_⟩))
  · have hSV := (s_S_V hV h0 h1).1
    obtain ⟨s1, s2, s3⟩ := x_span hSV
    obtain ⟨sp, esp⟩ : ∃ sp, x_at (s_S m s) (x_many (s_S m s) - 1) - x_at (s_S m s) 0 = sp := ⟨_, rfl⟩
    rw [esp] at s1 s2 s3 kk
    refine c_lookAt hC h0 h1 fun m1 f1 hT h4 h5 => y_79_9 ?_
    refine c_lowered hSV hT hN (by rw [f1 72 12 (by omega)]; exact hZ) fun m2 f2 g1 g2 g3 => y_79_14 ?_
    have hq : c_Q m m2 := c_Q_of hZ f1 hT (fun a j ha => f2 a j (by omega)) (by rw [g3 12 (by decide), f1 72 12 (by omega), show m 72 12 = 0 from hZ]; exact l_D_12 hN)
    have kk := kk m2 hq
    rw [g1, s3]
    unfold z_ok at hi hj
    refine ⟨(by unfold z_ok; omega), fun h => ?_, fun i0 => ⟨(by unfold z_ok2; omega), fun h => ?_, fun i1 => ⟨(by unfold z_ok; omega), fun h => ?_, fun j0 => ⟨(by unfold z_ok2; omega), fun j1 => ?_, fun h => ?_⟩⟩⟩⟩
    · rw [if_neg (by omega)] at kk; exact kk
    · rw [if_neg (by omega)] at kk; exact kk
    · rw [if_neg (by omega)] at kk; exact kk
    · rw [if_pos (by omega)] at kk
      refine c_cellOf (i := i.toNat) (j := j.toNat) (by omega) (by omega) g2 g3 (by rw [g1, s3]) s1 s2 (by omega) (by omega) (y_79_41 kk)
    · rw [if_neg (by omega)] at kk; exact kk
  · rw [if_neg (fun h => hn h.1)] at k0; exact k0
theorem n_row {m m1 : z_M} {g : z_g} {Q : q_V → q_S → Prop} {s i j : Int} (hs : z_ok s) (hi : z_ok i) (hj : z_ok j) (hV : i_V m) (hR : i_R m) (f : c_Q m m1) (kk : ∀ m', n_Q m1 m' → Q (.inl (r_row m s i j)) (z_st m' g)) : z_C 233 [.inr (.inr 131), .inl s, .inl i, .inl j] (z_st m1 g) Q := by
  unfold r_row at kk
  have k0 := kk m1 n_Q_refl
  have e8 : m1 131 8 = m 1 3 := by rw [f.1 131 8 (by omega)]; exact hR.1.2.2.1
  refine y_233 (n_isSum hs e8 hV.2.2.1 (fun h0 h1 => y_233_3 ⟨(by unfold z_ok; omega), fun _ => ?_, fun h => absurd h (by decide)⟩) (fun hn => y_233_3 ⟨(by unfold z_ok; omega), fun h => absurd rfl h, fun _ => ?_⟩))
  · have hSV := (s_S_V hV h0 h1).1
    obtain ⟨s1, s2, s3⟩ := x_span hSV
    have hS := I_nS hV hR h0 h1 (c_Q_fr f)
    refine n_fills hS fun m2 f2 g2 g3 => y_233_9 ?_
    obtain ⟨sp, esp⟩ : ∃ sp, x_at (s_S m s) (x_many (s_S m s) - 1) - x_at (s_S m s) 0 = sp := ⟨_, rfl⟩
    rw [esp] at s1 s2 s3 kk g2 g3
    have hq : n_Q m1 m2 := fun a j ha => f2 a j (by omega) (by omega) (by omega)
    have kk := kk m2 hq
    unfold z_ok at hi hj
    refine n_isIn (by unfold z_ok; omega) (by unfold z_ok; decide) (by unfold z_ok; omega) (fun i0 i1 => y_233_16 ⟨(by unfold z_ok; omega), fun h => absurd h (by decide), fun _ => n_isIn (by unfold z_ok; omega) (by unfold z_ok; decide) (by unfold z_ok; omega) (fun j0 j1 => y_233_24 ⟨(by unfold z_ok; omega), fun h => absurd h (by decide), fun _ => ⟨⟨by omega, by omega⟩, ?_⟩⟩) (fun hn => y_233_24 ⟨(by unfold z_ok; omega), fun _ => ?_, fun h => absurd rfl h⟩)⟩) (fun hn => y_233_16 ⟨(by unfold z_ok; omega), fun _ => ?_, fun h => absurd rfl h⟩)
    · rw [if_pos (by omega)] at kk
      have := g3 i.toNat j.toNat (by omega) (by omega)
      rw [show ((23 : Int) * i + j).toNat = 23 * i.toNat + j.toNat by omega, this]
      exact kk
    · rw [if_neg (by omega)] at kk; exact kk
    · rw [if_neg (by omega)] at kk; exact kk
  · rw [if_neg (fun h => hn h.1)] at k0; exact k0
theorem p_row {L : Nat} {m : z_M} {g : z_g} {s i j : Int} (hI : I L m g) (hs : z_ok s) (hi : z_ok i) (hj : z_ok j) : z_pI (I L) 79 233 [.inl s, .inl i, .inl j] m g :=
  p_pair (r_row m s i j) hI (fun Q kk => c_row hs hi hj hI.2.2.2.1 hI.2.2.2.2.1 kk) (fun m1 f1 Q kk => n_row hs hi hj hI.2.2.2.1.1 hI.2.2.2.2.2.1 f1 kk)
/-! resultant -/
def r_resultant (m : z_M) (s : Int) : Int := if 0 ≤ s ∧ s < m 1 3 then r_res (s_p m) (s_S m s) (s_N m s) else -1
theorem p_resultant {L : Nat} {m : z_M} {g : z_g} {s : Int} (hI : I L m g) (hs : z_ok s) : z_pI (I L) 83 235 [.inl s] m g := by
  have hC := hI.2.2.2.1
  have hV := hC.1
  have hZ := hI.2.2.2.2.1
  have hR := hI.2.2.2.2.2.1
  have hN := s_N_N (s := s) hV
  refine p_pair (r_resultant m s) hI (fun Q kk => ?_) (fun m1 f Q kk => ?_)
  · have k0 := kk m (c_Q_refl hC.2.1 hZ)
    unfold r_resultant at kk k0
    refine y_83 (c_isSumB hs hV (fun h0 h1 => y_83_3 ⟨(by unfold z_ok; omega), fun _ => ?_, fun h => absurd h (by decide)⟩) (fun hn => y_83_3 ⟨(by unfold z_ok; omega), fun h => absurd rfl h, fun _ => ?_⟩))
    · rw [if_pos ⟨h0, h1⟩] at kk
      have hSV := (s_S_V hV h0 h1).1
      refine c_lookAt hC h0 h1 fun m1 f1 hT h4 h5 => y_83_9 (c_resT hSV hT hN (by rw [f1 72 12 (by omega)]; exact hZ) fun m2 f2 hz => y_83_11 (kk m2 ?_))
      exact c_Q_of hZ f1 hT f2 (by rw [hz, f1 72 12 (by omega)]; exact hZ.symm)
    · rw [if_neg hn] at k0; exact k0
  · have k0 := kk m1 n_Q_refl
    unfold r_resultant at kk k0
    have e8 : m1 131 8 = m 1 3 := by rw [f.1 131 8 (by omega)]; exact hR.1.2.2.1
    refine y_235 (n_isSum hs e8 hV.2.2.1 (fun h0 h1 => y_235_3 ⟨(by unfold z_ok; omega), fun h => absurd h (by decide), fun _ => ?_⟩) (fun hn => y_235_3 ⟨(by unfold z_ok; omega), fun _ => ?_, fun h => absurd rfl h⟩))
    · rw [if_pos ⟨h0, h1⟩] at kk
      exact n_resultantOf (I_nS hV hR h0 h1 (c_Q_fr f)) fun m2 f2 => y_235_7 (kk m2 fun a j ha => f2 a j (by omega) (by omega) (by omega))
    · rw [if_neg hn] at k0; exact k0
theorem c_isPoint {m : z_M} {g : z_g} {Q : q_V → q_S → Prop} {x : Int} (hx : z_ok x) (hC : i_C m) (k1 : 1 ≤ x → x < s_p m → Q (.inl 1) (z_st m g)) (k0 : ¬ (1 ≤ x ∧ x < s_p m) → Q (.inl 0) (z_st m g)) : z_C 93 [.inr (.inr 0), .inl x] (z_st m g) Q := by
  have hp5 := z_pr_le (s_p_pr hC.1)
  unfold z_ok at hx
  exact y_93 ⟨(by unfold z_ok2; omega), fun h => k0 (by omega), fun h => c_modulus' hC (y_93_7 ⟨(by unfold z_ok2; omega), fun h2 => k0 (by omega), fun h2 => k1 h h2⟩)⟩
theorem n_isRoot {m : z_M} {g : z_g} {Q : q_V → q_S → Prop} {p x : Int} (hx : z_ok x) (h : n_P m p) (k1 : 1 ≤ x → x < p → Q (.inl 1) (z_st m g)) (k0 : ¬ (1 ≤ x ∧ x < p) → Q (.inl 0) (z_st m g)) : z_C 242 [.inr (.inr 131), .inl x] (z_st m g) Q := by
  have hp5 := z_pr_le h.1
  exact y_242 (n_p h (y_242_4 (n_isIn hx (by unfold z_ok; decide) (by unfold z_ok; omega) (fun h1 h2 => y_242_7 ⟨Or.inr rfl, k1 h1 (by omega)⟩) (fun hn => y_242_7 ⟨Or.inl rfl, k0 (by omega)⟩))))
/-- the equations of a sum at x can be solved -/
def s_fm (m : z_M) (s x : Int) : Prop := ∃ t, x_sol (s_p m) (x_many (s_S m s)) (x_many (s_S m s) - 2) (x_eqs (s_p m) (s_S m s) (s_N m s) x) t
theorem c_solve' {m : z_M} {g : z_g} {Q : q_V → q_S → Prop} {p x : Int} {S : Nat} {N : Nat → Int} (hS : x_V S) (hT : t_TT m p S N) (hN : x_N p S N) (h0 : 0 ≤ x) (h1 : x < p) (k1 : (∃ t, x_sol p (x_many S) (x_many S - 2) (x_eqs p S N x) t) → ∀ m' b, t_sam 100 108 m m' → m' 100 4 = ((x_many S - 2 : Nat) : Int) → (∀ c, c < x_many S - 2 → m' 108 c = b c) → x_lex p (x_many S) (x_many S - 2) (x_eqs p S N x) b → Q (.inl 1) (z_st m' g)) (k0 : ¬ (∃ t, x_sol p (x_many S) (x_many S - 2) (x_eqs p S N x) t) → ∀ m', t_sam 100 108 m m' → Q (.inl 0) (z_st m' g)) : z_C 106 [.inr (.inr 100), .inr (.inr 65), .inl x] (z_st m g) Q := by
  have hp := hT.1.1
  obtain ⟨o1, o2⟩ := x_so_ok (n := x_many S) (u := x_many S - 2) (A0 := x_eqs p S N x) hp (x_eqs_GR hp)
  refine c_solve hS.2.1 hS.2.2 hT hN h0 h1 fun m' v f g4 g5 g6 g7 => ?_
  by_cases hz : ∀ i, (x_so p (x_many S) (x_many S - 2) 0 (x_eqs p S N x) (fun _ => 0)).1 ≤ i → i < x_many S → (x_so p (x_many S) (x_many S - 2) 0 (x_eqs p S N x) (fun _ => 0)).2.1 i (x_many S - 2) = 0
  · rw [g7.mpr hz]
    exact k1 ⟨_, (o1 hz).1⟩ m' _ f g4 g5 (o1 hz)
  · have hv : v = 0 := by
      rcases g6 with h | h
      · exact h
      · exact absurd (g7.mp h) hz
    rw [hv]
    exact k0 (fun ⟨t, ht⟩ => hz (o2 t ht)) m' f
/-! isFormed -/
def r_isFormed (m : z_M) (s x : Int) [Decidable (s_fm m s x)] : Int := if 0 ≤ s ∧ s < m 1 3 then (if 1 ≤ x ∧ x < s_p m then (if s_fm m s x then 1 else 0) else -2) else -1
theorem p_isFormed {L : Nat} {m : z_M} {g : z_g} {s x : Int} (hI : I L m g) (hs : z_ok s) (hx : z_ok x) : z_pI (I L) 105 243 [.inl s, .inl x] m g := by
  have := Classical.propDecidable (s_fm m s x)
  have hC := hI.2.2.2.1
  have hV := hC.1
  have hZ := hI.2.2.2.2.1
  have hR := hI.2.2.2.2.2.1
  have hN := s_N_N (s := s) hV
  refine p_pair (r_isFormed m s x) hI (fun Q kk => ?_) (fun m1 f Q kk => ?_)
  · have k0 := kk m (c_Q_refl hC.2.1 hZ)
    unfold r_isFormed at kk k0
    refine y_105 (c_isSumB hs hV (fun h0 h1 => y_105_3 ⟨(by unfold z_ok; omega), fun _ => c_isPoint hx hC (fun x0 x1 => y_105_9 ⟨(by unfold z_ok; omega), fun _ => ?_, fun h => absurd h (by decide)⟩) (fun hn => y_105_9 ⟨(by unfold z_ok; omega), fun h => absurd rfl h, fun _ => ?_⟩), fun h => absurd h (by decide)⟩) (fun hn => y_105_3 ⟨(by unfold z_ok; omega), fun h => absurd rfl h, fun _ => ?_⟩))
    · rw [if_pos ⟨h0, h1⟩, if_pos ⟨x0, x1⟩] at kk
      have hSV := (s_S_V hV h0 h1).1
      refine c_lookAt hC h0 h1 fun m1 f1 hT h4 h5 => y_105_15 (c_solve' hSV hT hN (by omega) x1 (fun hs m2 b f2 _ _ _ => y_105_21 ⟨(by unfold z_ok; omega), fun h => absurd h (by decide), fun _ => ?_⟩) (fun hs m2 f2 => y_105_21 ⟨(by unfold z_ok; omega), fun _ => ?_, fun h => absurd rfl h⟩))
      · have hs : s_fm m s x := hs
        rw [if_pos hs] at kk
        exact kk m2 (c_Q_of hZ f1 hT (fun a j ha => f2 a j (by omega)) (f2 72 12 (by omega)))
      · have hs : ¬ s_fm m s x := hs
        rw [if_neg hs] at kk
        exact kk m2 (c_Q_of hZ f1 hT (fun a j ha => f2 a j (by omega)) (f2 72 12 (by omega)))
    · rw [if_pos ⟨h0, h1⟩, if_neg hn] at k0; exact k0
    · rw [if_neg hn] at k0; exact k0
  · have k0 := kk m1 n_Q_refl
    unfold r_isFormed at kk k0
    have e8 : m1 131 8 = m 1 3 := by rw [f.1 131 8 (by omega)]; exact hR.1.2.2.1
    refine y_243 (n_isSum hs e8 hV.2.2.1 (fun h0 h1 => y_243_3 ⟨(by unfold z_ok; omega), fun _ => ?_, fun h => absurd h (by decide)⟩) (fun hn => y_243_3 ⟨(by unfold z_ok; omega), fun h => absurd rfl h, fun _ => ?_⟩))
    · have hS := I_nS hV hR h0 h1 (c_Q_fr f)
      refine n_isRoot hx hS.1 (fun x0 x1 => y_243_9 ⟨(by unfold z_ok; omega), fun _ => ?_, fun h => absurd h (by decide)⟩) (fun hn => y_243_9 ⟨(by unfold z_ok; omega), fun h => absurd rfl h, fun _ => ?_⟩)
      · rw [if_pos ⟨h0, h1⟩, if_pos ⟨x0, x1⟩] at kk
        refine n_isFormedAt hS (by omega) x1 (fun hs m2 f2 _ => y_243_16 ⟨(by unfold z_ok; omega), fun h => absurd h (by decide), fun _ => ?_⟩) (fun hs m2 f2 => y_243_16 ⟨(by unfold z_ok; omega), fun _ => ?_, fun h => absurd rfl h⟩)
        · have hs : s_fm m s x := hs
          rw [if_pos hs] at kk
          exact kk m2 fun a j ha => f2 a j (by omega)
        · have hs : ¬ s_fm m s x := hs
          rw [if_neg hs] at kk
          exact kk m2 fun a j ha => f2 a j (by omega)
      · rw [if_pos ⟨h0, h1⟩, if_neg hn] at k0; exact k0
    · rw [if_neg hn] at k0; exact k0
/-! by -/
theorem x_lex_uni {p : Int} {n u : Nat} {A : x_A} {b d : Nat → Int} (hb : x_lex p n u A b) (hd : x_lex p n u A d) : ∀ (k c : Nat), c < k → c < u → b c = d c
  | 0, _, h, _ => absurd h (by omega)
  | k + 1, c, h, hc => by
    have ih := x_lex_uni hb hd k
    have h1 := hb.2.2 d c hc hd.1 (fun j hj => by rw [ih j (by omega) (by omega)])
    have h2 := hd.2.2 b c hc hb.1 (fun j hj => by rw [ih j (by omega) (by omega)])
    have b1 := hb.2.1 c hc
    have b2 := hd.2.1 c hc
    rw [z_mi b2.1 b2.2] at h1
    rw [z_mi b1.1 b1.2] at h2
    omega
theorem p_by {L : Nat} {m : z_M} {g : z_g} {s x i : Int} (hI : I L m g) (hs : z_ok s) (hx : z_ok x) (hi : z_ok i) : z_pI (I L) 110 249 [.inl s, .inl x, .inl i] m g := by
  have hC := hI.2.2.2.1
  have hV := hC.1
  have hZ := hI.2.2.2.2.1
  have hR := hI.2.2.2.2.2.1
  have hN := s_N_N (s := s) hV
  have hp5 := z_pr_le (s_p_pr hV)
  -- the answer, where there is a least solution b
  obtain ⟨v, hv1, hv2, hv3, hv4, hv5⟩ : ∃ v : Int, (¬ (0 ≤ s ∧ s < m 1 3) → v = -1) ∧ ((0 ≤ s ∧ s < m 1 3) → ¬ (0 ≤ i ∧ i < (x_many (s_S m s) : Int) - 2) → v = -1) ∧ ((0 ≤ s ∧ s < m 1 3) → (0 ≤ i ∧ i < (x_many (s_S m s) : Int) - 2) → ¬ (1 ≤ x ∧ x < s_p m) → v = -2) ∧ ((0 ≤ s ∧ s < m 1 3) → (0 ≤ i ∧ i < (x_many (s_S m s) : Int) - 2) → (1 ≤ x ∧ x < s_p m) → ¬ s_fm m s x → v = -5) ∧ ((0 ≤ s ∧ s < m 1 3) → (0 ≤ i ∧ i < (x_many (s_S m s) : Int) - 2) → (1 ≤ x ∧ x < s_p m) → s_fm m s x → ∀ b, x_lex (s_p m) (x_many (s_S m s)) (x_many (s_S m s) - 2) (x_eqs (s_p m) (s_S m s) (s_N m s) x) b → v = b i.toNat) := by
    by_cases c1 : 0 ≤ s ∧ s < m 1 3
    · by_cases c2 : 0 ≤ i ∧ i < (x_many (s_S m s) : Int) - 2
      · by_cases c3 : 1 ≤ x ∧ x < s_p m
        · by_cases c4 : s_fm m s x
          · obtain ⟨o1, o2⟩ := x_so_ok (n := x_many (s_S m s)) (u := x_many (s_S m s) - 2) (A0 := x_eqs (s_p m) (s_S m s) (s_N m s) x) (s_p_pr hV) (x_eqs_GR (s_p_pr hV))
            obtain ⟨t, ht⟩ := c4
            have hl := o1 (o2 t ht)
            exact ⟨_, fun h => absurd c1 h, fun _ h => absurd c2 h, fun _ _ h => absurd c3 h, fun _ _ _ h => absurd ⟨t, ht⟩ h, fun _ _ _ _ b hb => x_lex_uni hl hb (x_many (s_S m s)) i.toNat (by omega) (by omega)⟩
          · exact ⟨-5, fun h => absurd c1 h, fun _ h => absurd c2 h, fun _ _ h => absurd c3 h, fun _ _ _ _ => rfl, fun _ _ _ h => absurd h c4⟩
        · exact ⟨-2, fun h => absurd c1 h, fun _ h => absurd c2 h, fun _ _ _ => rfl, fun _ _ h => absurd h c3, fun _ _ h => absurd h c3⟩
      · exact ⟨-1, fun h => absurd c1 h, fun _ _ => rfl, fun _ h => absurd h c2, fun _ h => absurd h c2, fun _ h => absurd h c2⟩
    · exact ⟨-1, fun _ => rfl, fun h => absurd h c1, fun h => absurd h c1, fun h => absurd h c1, fun h => absurd h c1⟩
  refine p_pair v hI (fun Q kk => ?_) (fun m1 f Q kk => ?_)
  · refine y_110 (c_isSumB hs hV (fun h0 h1 => y_110_3 ⟨(by unfold z_ok; omega), fun _ => ?_, fun h => absurd h (by decide)⟩) (fun hn => y_110_3 ⟨(by unfold z_ok; omega), fun h => absurd rfl h, fun _ => ?_⟩))
    · have hSV := (s_S_V hV h0 h1).1
      have h6 := hSV.2
      refine c_lookAt hC h0 h1 fun m1 f1 hT h4 h5 => y_110_9 ?_
      have hq : c_Q m m1 := c_Q_of hZ f1 hT (fun _ _ _ => rfl) rfl
      have hi' := hi
      unfold z_ok at hi'
      refine ⟨hi, fun hi0 => ?_, fun hi0 => c_rels_b h6.1 h6.2 hT.2.1 (y_110_16 ⟨(by unfold z_ok2; omega), fun hi1 => ?_, fun hi1 => ?_⟩)⟩
      · rw [← hv2 ⟨h0, h1⟩ (by omega)]; exact kk m1 hq
      · have eC : i_C m1 := ⟨i_V_of (fun a j _ _ => hq.1 a j (by omega)) hV, hq.2.1, i_P_of (fun j => hq.1 1002 j (by omega)) hC.2.2⟩
        have ep : s_p m1 = s_p m := by unfold s_p; rw [hq.1 1 0 (by omega)]
        refine c_isPoint hx eC (fun x0 x1 => y_110_22 ⟨(by unfold z_ok; omega), fun _ => ?_, fun h => absurd h (by decide)⟩) (fun hn => y_110_22 ⟨(by unfold z_ok; omega), fun h => absurd rfl h, fun _ => ?_⟩)
        · rw [ep] at x1
          refine c_solve' hSV hT hN (by omega) x1 (fun hs m2 b f2 g4 g5 g6 => y_110_31 ⟨(by unfold z_ok; omega), fun h => absurd h (by decide), fun _ => ?_⟩) (fun hs m2 f2 => y_110_31 ⟨(by unfold z_ok; omega), fun _ => ?_, fun h => absurd rfl h⟩)
          · refine c_byOf (by omega) g4 hi0 (by omega) (g5 i.toNat (by omega)) (y_110_36 ?_)
            rw [← hv5 ⟨h0, h1⟩ ⟨hi0, by omega⟩ ⟨x0, x1⟩ hs b g6]
            exact kk m2 (c_Q_of hZ f1 hT (fun a j ha => f2 a j (by omega)) (f2 72 12 (by omega)))
          · rw [← hv4 ⟨h0, h1⟩ ⟨hi0, by omega⟩ ⟨x0, x1⟩ hs]
            exact kk m2 (c_Q_of hZ f1 hT (fun a j ha => f2 a j (by omega)) (f2 72 12 (by omega)))
        · rw [ep] at hn
          rw [← hv3 ⟨h0, h1⟩ ⟨hi0, by omega⟩ hn]; exact kk m1 hq
      · rw [← hv2 ⟨h0, h1⟩ (by omega)]; exact kk m1 hq
    · rw [← hv1 hn]; exact kk m (c_Q_refl hC.2.1 hZ)
  · have e8 : m1 131 8 = m 1 3 := by rw [f.1 131 8 (by omega)]; exact hR.1.2.2.1
    refine y_249 (n_isSum hs e8 hV.2.2.1 (fun h0 h1 => y_249_3 ⟨(by unfold z_ok; omega), fun h => absurd h (by decide), fun _ => ?_⟩) (fun hn => y_249_3 ⟨(by unfold z_ok; omega), fun _ => ?_, fun h => absurd rfl h⟩))
    · have hSV := (s_S_V hV h0 h1).1
      have h6 := hSV.2
      have hS := I_nS hV hR h0 h1 (c_Q_fr f)
      have hS2 : s_S m s < 2147483648 := by have := hSV.1; omega
      refine n_setOf hS (y_249_9 (n_many hS2 (y_249_10 (n_isIn hi (by unfold z_ok; decide) (by unfold z_ok; omega) (fun i0 i1 => y_249_13 ⟨(by unfold z_ok; omega), fun _ => ?_, fun h => absurd h (by decide)⟩) (fun hn => y_249_13 ⟨(by unfold z_ok; omega), fun h => absurd rfl h, fun _ => ?_⟩)))))
      · refine n_isRoot hx hS.1 (fun x0 x1 => y_249_19 ⟨(by unfold z_ok; omega), fun _ => ?_, fun h => absurd h (by decide)⟩) (fun hn => y_249_19 ⟨(by unfold z_ok; omega), fun h => absurd rfl h, fun _ => ?_⟩)
        · refine n_isFormedAt hS (by omega) x1 (fun hs m2 f2 g2 => y_249_26 ⟨(by unfold z_ok; omega), fun _ => ?_, fun h => absurd h (by decide)⟩) (fun hs m2 f2 => y_249_26 ⟨(by unfold z_ok; omega), fun h => absurd rfl h, fun _ => ?_⟩)
          · have hs : s_fm m s x := hs
            have hfr : n_fr m1 m2 := ⟨f2 131 1 (by omega), fun a j _ _ => f2 a j (by omega)⟩
            refine n_setOf (n_S_fr hS hfr) (y_249_33 ?_)
            obtain ⟨o1, o2⟩ := x_so_ok (n := x_many (s_S m s)) (u := x_many (s_S m s) - 2) (A0 := x_eqs (s_p m) (s_S m s) (s_N m s) x) (s_p_pr hV) (x_eqs_GR (s_p_pr hV))
            obtain ⟨t, ht⟩ := hs
            have hl := o1 (o2 t ht)
            refine n_findsBy (N := s_N m s) (x := x) (n_P_fr hS.1 hfr) hSV g2 hl fun m3 f3 g3 => y_249_34 ⟨⟨by omega, by omega⟩, ?_⟩
            rw [g3 i.toNat (by omega), ← hv5 ⟨h0, h1⟩ ⟨i0, by omega⟩ ⟨x0, x1⟩ ⟨t, ht⟩ _ hl]
            exact kk m3 fun a j ha => by rw [f3 a j (by omega), f2 a j (by omega)]
          · have hs : ¬ s_fm m s x := hs
            rw [← hv4 ⟨h0, h1⟩ ⟨i0, by omega⟩ ⟨x0, x1⟩ hs]
            exact kk m2 fun a j ha => f2 a j (by omega)
        · rw [← hv3 ⟨h0, h1⟩ ⟨i0, by omega⟩ hn]; exact kk m1 n_Q_refl
      · rw [← hv2 ⟨h0, h1⟩ (by omega)]; exact kk m1 n_Q_refl
    · rw [← hv1 hn]; exact kk m1 n_Q_refl
