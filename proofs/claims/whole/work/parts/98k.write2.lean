/-! PAIRS: write, paper: the model and the pairs -/
def w_sb (m : z_M) (s : w_st) : Prop := m 131 37 = (s.1 : Int) ∧ ∀ i, i < s.1 → m 157 i = s.2 i
def w_fr (m m' : z_M) : Prop := ∀ a j, ¬ a = 157 → ¬ (a = 131 ∧ j = 37) → m' a j = m a j
theorem w_fr_tr {m m1 m2 : z_M} (h1 : w_fr m m1) (h2 : w_fr m1 m2) : w_fr m m2 := fun a j q1 q2 => (h2 a j q1 q2).trans (h1 a j q1 q2)
theorem n_writesOne {m : z_M} {g : z_g} {Q : q_V → q_S → Prop} {s : w_st} {c : Int} (h : w_sb m s) (hn : s.1 < 40) (kk : ∀ m', w_sb m' (w_ch s c) → w_fr m m' → Q q_dead (z_st m' g)) : z_C 281 [.inr (.inr 131), .inl c] (z_st m g) Q := by
  obtain ⟨h1, h2⟩ := h
  refine y_281 ?_
  rw [h1, Int.toNat_natCast]
  refine ⟨⟨by omega, by omega⟩, kk _ ⟨z_ue rfl rfl, fun i hi => ?_⟩ (fun a j q1 q2 => by rw [z_un q2, z_un (by omega)])⟩
  have hi : i < s.1 + 1 := hi
  rw [z_un (by omega)]
  show _ = s_ap s.2 s.1 c i
  unfold s_ap
  by_cases hin : i = s.1
  · rw [z_ue rfl hin, if_pos hin]
  · rw [z_un (by omega), if_neg hin]; exact h2 i (by omega)
theorem n_writesNumber {m : z_M} {g : z_g} {Q : q_V → q_S → Prop} {s : w_st} {v : Int} (h : w_sb m s) (hn : s.1 < 39) (v0 : 0 ≤ v) (v1 : v ≤ 99) (kk : ∀ m', w_sb m' (w_num s v) → w_fr m m' → Q q_dead (z_st m' g)) : z_C 282 [.inr (.inr 131), .inl v] (z_st m g) Q := by
  unfold w_num at kk
  refine y_282 ⟨(by unfold z_ok2; omega), fun h9 => y_282_10 ⟨(by unfold z_dv; omega), ?_⟩, fun h9 => ⟨(by unfold z_dv; omega), ?_⟩⟩
  · rw [if_pos h9] at kk
    rw [show v % 10 = v by omega]
    exact n_writesOne h (by omega) fun m1 h1 f1 => y_282_17 (kk m1 h1 f1)
  · rw [if_neg (by omega)] at kk
    exact n_writesOne h (by omega) fun m1 h1 f1 => y_282_10 ⟨(by unfold z_dv; omega), n_writesOne h1 (by show s.1 + 1 < 40; omega) fun m2 h2 f2 => y_282_17 (kk m2 h2 (w_fr_tr f1 f2))⟩
theorem n_writes {m : z_M} {g : z_g} {Q : q_V → q_S → Prop} {s p : Int} {S : Nat} {kd fg : Int} {T : Nat → Int} (hS : n_S m s p S kd fg T) (kk : ∀ m', w_sb m' (w_fin (n_at p S kd fg T)) → w_fr m m' → Q (.inl ((w_fin (n_at p S kd fg T)).1 : Int)) (z_st m' g)) (h37 : m 131 37 = 0) (d3 : q_V) : z_T 280 11 [.inr (.inr 131), .inl s, .inl 12, d3] [] (z_st m g) Q := by
  have hp := hS.1.1
  have hp5 := z_pr_le hp
  have hSV := hS.2.2.2.2.1
  have hN := n_at_N (S := S) (kd := kd) (fg := fg) (told := T) hp
  have num : ∀ (m1 : z_M) (e : Nat) (ei : Int) (Q' : q_V → q_S → Prop), ei = (e : Int) → e ≤ 12 → w_fr m m1 → Q' (.inl (n_at p S kd fg T e)) (z_st m1 g) → z_C 214 [.inr (.inr 131), .inl s, .inl ei] (z_st m1 g) Q' := fun m1 e ei Q' he he2 f h => by
    subst he
    exact n_numberOf (n_S_fr hS ⟨f 131 1 (by omega) (by omega), fun a j _ _ => f a j (by omega) (by omega)⟩) (by omega) (by omega) h
  generalize n_at p S kd fg T = N at hN kk num
  have hNr : ∀ e, 0 ≤ N e ∧ N e ≤ 99 := fun e => by have := hN.1 e; omega
  have loop : ∀ (r d : Nat) (ei : Int) (m1 : z_M) (d3 : q_V), d + r = 13 → ei = 12 - (d : Int) → w_fr m m1 → w_sb m1 (w_r N d) → z_T 280 11 [.inr (.inr 131), .inl s, .inl ei, d3] [] (z_st m1 g) Q := by
    intro r
    induction r with
    | zero =>
      intro d ei m1 d3 hd hei hf hsb
      have hd13 : d = 13 := by omega
      subst hd13
      have hbd := w_bd hN 13 (Nat.le_refl _)
      have h6 := hSV.2.2
      refine y_280_11 ⟨(by unfold z_ok; omega), fun _ => ?_, (fun h => absurd h (by omega))⟩
      rw [hsb.1]
      refine ⟨(by unfold z_ok; omega), fun h0 => y_280_44 ?_, fun h0 => n_writesOne hsb (by omega) fun m2 h2 f2 => y_280_44 ?_⟩
      · have e : w_fin N = w_r N 13 := by unfold w_fin; rw [if_neg (by omega)]
        rw [e] at kk
        rw [hsb.1]
        exact kk m1 hsb hf
      · have e : w_fin N = w_ch (w_r N 13) 48 := by unfold w_fin; rw [if_pos (by omega)]
        rw [e] at kk
        rw [h2.1]
        exact kk m2 h2 (w_fr_tr hf f2)
    | succ r ih =>
      intro d ei m1 d3 hd hei hf hsb
      have ee : ei = ((12 - d : Nat) : Int) := by omega
      subst ee
      have hbd := w_bd hN d (by omega)
      have h6 := hSV.2.2
      have hNe := hNr (12 - d)
      have ih' := fun m2 d3 => ih (d + 1) (((12 - d : Nat) : Int) + -1) m2 d3 (by omega) (by omega)
      have es : w_r N (d + 1) = w_term (w_r N d) (12 - d) (N (12 - d)) := rfl
      rw [es] at ih'
      refine y_280_11 ⟨(by unfold z_ok; omega), (fun h => absurd h (by omega)), fun _ => num m1 (12 - d) _ _ rfl (by omega) hf (y_280_17 ⟨by unfold z_ok; omega, fun hv => ?_, fun hv => y_280_36 ?_⟩)⟩
      · have hlen : (w_r N d).1 ≤ 29 := by
          have hb : S.testBit (12 - d) = true := by
            by_cases hb : S.testBit (12 - d) = true
            · exact hb
            · exact absurd (hN.2 _ (Or.inr hb)) hv
          have h1 : (x_pre S (12 - d + 1)).length = (x_pre S (12 - d)).length + 1 := by rw [x_pre_t hb, List.length_append]; rfl
          rw [show 12 - d + 1 = 13 - d by omega] at h1
          omega
        generalize w_r N d = sA at hsb ih' hlen
        unfold w_term at ih'
        rw [if_neg hv] at ih'
        rw [hsb.1]
        have t27 : ∀ (m2 : z_M) (s' : w_st), s' = (if sA.1 = 0 then sA else w_ch sA 43) → w_sb m2 s' → w_fr m1 m2 → z_T 280 27 [.inr (.inr 131), .inl s, .inl ((12 - d : Nat) : Int), .inl (N (12 - d))] [] (z_st m2 g) Q := by
          intro m2 s' e1 hs2 f2
          rw [← e1] at ih'
          have hl2 : s'.1 ≤ 30 := by
            rw [e1]
            split
            · omega
            · show sA.1 + 1 ≤ 30; omega
          have hl3 := w_num_len (s := s') (v := N (12 - d))
          refine y_280_27 (n_writesNumber hs2 (by omega) hNe.1 hNe.2 fun m3 hs3 f3 => y_280_30 (n_writesOne hs3 (by omega) fun m4 hs4 f4 => y_280_33 (n_writesNumber hs4 (by show (w_num s' (N (12 - d))).1 + 1 < 39; omega) (by omega) (by omega) fun m5 hs5 f5 => y_280_36 (ih' m5 _ (w_fr_tr hf (w_fr_tr f2 (w_fr_tr f3 (w_fr_tr f4 f5)))) hs5))))
        refine ⟨(by unfold z_ok; omega), fun h0 => t27 m1 sA (by rw [if_pos (by omega)]) hsb (fun _ _ _ _ => rfl), fun h0 => n_writesOne hsb (by omega) fun m2 hs2 f2 => t27 m2 _ (by rw [if_neg (by omega)]) hs2 f2⟩
      · rw [(w_term_len).2 hv] at ih'
        exact ih' m1 _ hf hsb
  exact loop 13 0 12 m d3 rfl (by decide) (fun _ _ _ _ => rfl) ⟨h37, fun i hi => absurd hi (Nat.not_lt_zero _)⟩
theorem w_fin_len {p : Int} {S : Nat} {N : Nat → Int} (hN : x_N p S N) (h6 : x_many S ≤ 6) : (w_fin N).1 ≤ 35 := by
  have hbd := w_bd hN 13 (Nat.le_refl _)
  unfold w_fin
  split
  · show (w_r N 13).1 + 1 ≤ 35
    omega
  · omega
theorem w_fin_ok {N : Nat → Int} (h : ∀ e, 0 ≤ N e ∧ N e ≤ 99) : w_ok (w_fin N) := by
  unfold w_fin
  split
  · exact w_ok_ch (w_r_ok h 13) (by decide) (by decide)
  · exact w_r_ok h 13
theorem I_text {L : Nat} {m m4 : z_M} {g g4 : z_g} (hI : I L m g) (hg : i_g L g4) (F : ∀ a j, a < 165 ∨ 1000 ≤ a → ¬ z_scr a j → ¬ a = 125 → ¬ a = 126 → ¬ a = 157 → ¬ (a = 131 ∧ j = 37) → m4 a j = m a j) (hT : i_T m4) (hZ : i_Z m4) (hW : i_W m4 g4.2.1) : I L m4 g4 := by
  obtain ⟨h1, h2, h3, ⟨h4, -, h5⟩, -, h6, h7, h8, h9, h10, h11, h12⟩ := hI
  unfold z_scr at F
  exact ⟨hg, i_Sc_of (fun j => F 1001 j (by omega) (by omega) (by omega) (by omega) (by omega) (by omega)) h2, i_D_of (fun a j _ _ => F a j (by omega) (by omega) (by omega) (by omega) (by omega) (by omega)) h3, ⟨i_V_of (fun a j _ _ => F a j (by omega) (by omega) (by omega) (by omega) (by omega) (by omega)) h4, hT, i_P_of (fun j => F 1002 j (by omega) (by omega) (by omega) (by omega) (by omega) (by omega)) h5⟩, hZ, i_R_of (fun a j _ => F a j (by omega) (by omega) (by omega) (by omega) (by omega) (by omega)) h6, i_K_of (fun a j _ => F a j (by omega) (by omega) (by omega) (by omega) (by omega) (by omega)) h7, i_St_of (fun a j _ => F a j (by omega) (by omega) (by omega) (by omega) (by omega) (by omega)) h8, i_L_of (fun a j _ => F a j (by omega) (by omega) (by omega) (by omega) (by omega) (by omega)) h9, i_X_of (fun a j _ => F a j (by omega) (by omega) (by omega) (by omega) (by omega) (by omega)) h10, hW, i_F_of (fun a j _ => F a j (by omega) (by omega) (by omega) (by omega) (by omega) (by omega)) h12⟩
theorem p_write {L : Nat} {m : z_M} {g : z_g} {s : Int} (hI : I L m g) (hs : z_ok s) : z_pI (I L) 154 280 [.inl s] m g := by
  have hC := hI.2.2.2.1
  have hZ := hI.2.2.2.2.1
  have hV := hC.1
  have hR := hI.2.2.2.2.2.1
  have hW := hI.2.2.2.2.2.2.2.2.2.2.1
  have hg := hI.1
  have v3 := hV.2.2.1
  have hp := s_p_pr hV
  have hp5 := z_pr_le hp
  have r8 : m 131 8 = m 1 3 := hR.1.2.2.1
  refine z_C_wp [3, 9, 13, 20] 40 s_P154 ?_
  refine c_isSumB hs hV (fun h0 h1 => ?_) (fun hno => ?_)
  · have hSV := (s_S_V hV h0 h1).1
    have hN := s_N_N (s := s) hV
    refine z_wp_T (cd := q_c154) (cs := [9, 13, 20]) rfl 40 3 _ _ _ _ ?_
    apply And.intro
    · intro _
      refine c_lookAt hC h0 h1 fun m1 f1 hT h4 h5 => ?_
      refine z_wp_T (cd := q_c154) (cs := [13, 20]) rfl 40 9 _ _ _ _ ?_
      have hvp := s_vp hg
      refine s_setLength (tx := fun _ => 0) hg (by rw [f1 125 1 (by omega)]; exact hW.1) (by rw [f1 125 3 (by omega)]; exact ⟨hW.2.1, hW.2.2.1⟩) (fun j => by rw [f1 _ j (by omega)]; exact hW.2.2.2.2.2.2.2 j) fun m2 g2 hs2 f2 => ?_
      have hT2 := t_TT_s hT f2
      refine z_wp_T (cd := q_c154) (cs := [20]) rfl 40 13 _ _ _ _ ?_
      show z_T 154 20 [.inr (.inr 0), .inl s, .inl (m2 66 1 - 1)] [] (z_st m2 g2) _
      rw [hT2.2.1.1]
      have hD2 : i_D m2 := i_D_of (fun a j _ _ => by rw [f2 a j (by omega) (by omega) (by omega), f1 a j (by omega)]) hI.2.2.1
      refine c_writes (m := m2) hSV hN hp (fun m3 g3 hs3 f3 => ?_) (x_many (s_S m s)) _ m2 g2 rfl (Nat.le_refl _) hT2 hD2 (fun _ _ _ _ _ => rfl) (by rw [if_neg (Nat.lt_irrefl _)]; exact hs2)
      have F3 : ∀ a j, a < 165 ∨ 1000 ≤ a → ¬ (29 ≤ a ∧ a ≤ 68) → ¬ a = 125 → ¬ a = 126 → m3 a j = m a j := fun a j q1 q2 q3 q4 => by rw [f3 a j q1 q3 q4, f2 a j q1 q3 q4, f1 a j (by omega)]
      have hT3 := t_TT_s hT2 f3
      have hlen := w_fin_len hN hSV.2.2
      have hok := w_fin_ok (N := s_N m s) (fun e => by have := hN.1 e; omega)
      have hS3 := I_nS hV hR h0 h1 (m' := m3) ⟨F3 131 1 (by omega) (by omega) (by omega) (by omega), fun a j _ _ => F3 a j (by omega) (by omega) (by omega) (by omega)⟩
      refine ⟨((w_fin (s_N m s)).1 : Int), m3, g3, rfl, rfl, fun j => F3 1001 j (by omega) (by omega) (by omega) (by omega), hs3.1.1.trans hg.1.symm, y_280 (n_isSum hs (by rw [F3 131 8 (by omega) (by omega) (by omega) (by omega)]; exact r8) v3 (fun _ _ => y_280_3 ⟨(by unfold z_ok; omega), fun _ => ?_, (fun h => absurd h (by omega))⟩) (fun h => absurd ⟨h0, h1⟩ h))⟩
      refine n_writes (n_S_fr hS3 ⟨z_un (by omega), fun a j _ _ => z_un (by omega)⟩) (fun m4 h4 f4 => p_m rfl ?_) (z_ue rfl rfl) _
      have hvp3 := s_vp hs3.1
      have hcap := s_cap_rng hs3.1
      have F4 : ∀ a j, ¬ a = 157 → ¬ (a = 131 ∧ j = 37) → m4 a j = m3 a j := fun a j q1 q2 => by rw [f4 a j q1 q2, z_un q2]
      have e125 : m4 125 3 = ((w_fin (s_N m s)).1 : Int) := by rw [F4 125 3 (by omega) (by omega)]; exact hs3.2.2.1
      have hc3 := hs3.2.2.2.1
      refine I_text hI hs3.1 (fun a j q1 q2 q3 q4 q5 q6 => by rw [F4 a j q5 q6]; exact F3 a j q1 (fun h => q2 (by unfold z_scr; omega)) q3 q4) (i_T_of (fun a j _ _ => F4 a j (by omega) (by omega)) (Or.inr ⟨_, hT3.1⟩)) (by show _ = _; rw [F4 72 12 (by omega) (by omega), F3 72 12 (by omega) (by omega) (by omega) (by omega)]; exact hZ) ⟨by rw [F4 125 1 (by omega) (by omega)]; exact hs3.2.1, by rw [e125]; omega, by rw [e125]; omega, by rw [e125]; exact h4.1, fun hv => by rw [e125]; omega, fun hv => by rw [e125]; omega, fun i hi => ?_, fun j => by rw [F4 _ j (by omega) (by omega)]; exact hs3.2.2.2.2.1 j⟩
      rw [e125] at hi
      have hi' : i < (w_fin (s_N m s)).1 := by omega
      have e1 : m4 157 i = (w_fin (s_N m s)).2 i := h4.2 i hi'
      rw [F4 g3.2.1 i (by omega) (by omega), hs3.2.2.2.2.2 i hi', e1]
      exact ⟨rfl, hok i hi'⟩
    · intro h
      exact absurd h (by decide)
  · refine z_wp_T (cd := q_c154) (cs := [9, 13, 20]) rfl 40 3 _ _ _ _ ?_
    apply And.intro
    · intro h
      exact absurd h (by decide)
    · intro _
      exact ⟨-1, m, g, rfl, rfl, fun _ => rfl, rfl, y_280 (n_isSum hs r8 v3 (fun h0 h1 => absurd ⟨h0, h1⟩ hno) (fun _ => y_280_3 ⟨(by unfold z_ok; omega), (fun h => absurd h (by omega)), fun _ => p_m rfl hI⟩))⟩
/-! PAIRS: paper -/
theorem s_P167 : q_P 167 = (q_c167, 2) := rfl
theorem s_P168 : q_P 168 = (q_c168, 3) := rfl
theorem s_P173 : q_P 173 = (q_c173, 2) := rfl
theorem s_P174 : q_P 174 = (q_c174, 2) := rfl
theorem s_P175 : q_P 175 = (q_c175, 5) := rfl
theorem s_i2c_dec : ∀ k : Nat, k < 128 → q_i2c (k : Int) = (k : Int) := by decide +kernel
theorem s_and255 {x : Int} (h0 : 0 ≤ x) (h1 : x < 128) : q_i2c (q_bin 3 x 255) = x := by
  obtain ⟨k, rfl⟩ := Int.eq_ofNat_of_zero_le h0
  have e := q_b_and (a := k) (b := 255) (by omega) (by decide)
  have e2 : k &&& 255 = k := by
    rw [show (255 : Nat) = 2 ^ 8 - 1 from rfl, Nat.and_two_pow_sub_one_eq_mod]
    omega
  rw [e2] at e
  have e3 : q_bin 3 (k : Int) 255 = (k : Int) := e
  rw [e3]
  exact s_i2c_dec k (by omega)
theorem s_checkIndex {m : z_M} {g : z_g} {Q : q_V → q_S → Prop} {i n : Int} (h0 : 0 ≤ i) (h1 : i < n) (hn : n ≤ 100) (kk : Q q_dead (z_st m g)) : z_C 167 [.inl i, .inl n] (z_st m g) Q := by
  refine z_C_wp [] 20 s_P167 ?_
  refine z_C_wp [] 20 s_P168 ?_
  apply And.intro
  · intro h
    have h : q_cond 2 (q_w i) 0 = true := h
    rw [z_c0 (s_ok (by omega) (by omega))] at h
    have h : i < 0 := of_decide_eq_true h
    omega
  · intro _
    apply And.intro
    · intro _
      exact kk
    · intro h
      have h : q_cond 2 (q_w i) (q_w n) = false := h
      rw [z_c (s_ok (by omega) (by omega)) (s_ok (by omega) (by omega))] at h
      have h : ¬ i < n := of_decide_eq_false h
      omega
set_option maxRecDepth 10000 in
theorem s_charAt_a {L sl : Nat} {m : z_M} {Q : q_V → q_S → Prop} {i : Int} (h1 : m 125 1 = 0) (h3 : 0 ≤ m 125 3 ∧ m 125 3 ≤ 16) (i0 : 0 ≤ i) (i1 : i < m 125 3) (x0 : 0 ≤ m 126 i.toNat) (x1 : m 126 i.toNat < 128) (kk : Q (.inl (m 126 i.toNat)) (z_st m (L, 126, [], sl))) : z_C 174 [.inr (.inr 125), .inl i] (z_st m (L, 126, [], sl)) Q := by
  have e3 : q_bin 7 16 (m 125 1) = 16 := by rw [h1]; exact s_shr0 16 (by decide)
  have q4 : ∀ (a b c : Nat) (z : Int) (t : List Nat) (x : Int), 0 ≤ x → x < 128 → q_ret (a, 4, b, z, t) [.inl x] = some (.inl x) := fun a b c z t x q0 q1 => by
    show (if 0 ≤ x ∧ x < 256 then (some (.inl x) : Option q_V) else none) = _
    rw [if_pos ⟨q0, by omega⟩]
  have x4 : q_i2c (q_bin 3 (m 126 i.toNat) 255) = m 126 i.toNat := s_and255 x0 x1
  refine z_C_wp [3] 20 s_P174 ?_
  refine z_C_wp [13, 17, 25] 40 s_P175 ?_
  show z_C 86 [.inl (m 125 3), .inl (q_bin 7 16 (m 125 1))] (z_st m (L, 126, [], sl)) _
  rw [e3]
  refine c_min (by unfold z_ok2; omega) ?_
  rw [show (if m 125 3 < 16 then m 125 3 else 16) = m 125 3 by split <;> omega]
  refine z_wp_T (cd := q_c175) (cs := [17, 25]) rfl 20 13 _ _ _ _ ?_
  refine s_checkIndex i0 i1 (by omega) ?_
  refine z_wp_T (cd := q_c175) (cs := [25]) rfl 20 17 _ _ _ _ ?_
  apply And.intro
  · intro h
    have h : q_cond 1 (q_w (m 125 1)) 0 = true := h
    rw [h1] at h
    exact absurd h (by decide)
  · intro _
    apply And.intro
    · show 0 ≤ i ∧ i < ((16 : Nat) : Int)
      omega
    · show z_T 175 25 _ [.inl (q_i2c (q_bin 3 (m 126 i.toNat) 255))] _ _
      rw [x4]
      refine z_T_ret (i := (51, 4, 0, 0, [])) rfl rfl (q4 51 0 0 0 [] _ x0 x1) ?_
      refine z_T_ret (i := (51, 4, 0, 0, [])) rfl rfl (q4 51 0 0 0 [] _ x0 x1) ?_
      exact kk
set_option maxRecDepth 10000 in
theorem s_charAt_b {L sl : Nat} {m : z_M} {Q : q_V → q_S → Prop} {i : Int} (h1 : m 125 1 = 0) (h3 : 0 ≤ m 125 3 ∧ m 125 3 ≤ 34) (i0 : 0 ≤ i) (i1 : i < m 125 3) (x0 : 0 ≤ m 165 i.toNat) (x1 : m 165 i.toNat < 128) (kk : Q (.inl (m 165 i.toNat)) (z_st m (L, 165, [(2,34)], sl))) : z_C 174 [.inr (.inr 125), .inl i] (z_st m (L, 165, [(2,34)], sl)) Q := by
  have e3 : q_bin 7 34 (m 125 1) = 34 := by rw [h1]; exact s_shr0 34 (by decide)
  have q4 : ∀ (a b c : Nat) (z : Int) (t : List Nat) (x : Int), 0 ≤ x → x < 128 → q_ret (a, 4, b, z, t) [.inl x] = some (.inl x) := fun a b c z t x q0 q1 => by
    show (if 0 ≤ x ∧ x < 256 then (some (.inl x) : Option q_V) else none) = _
    rw [if_pos ⟨q0, by omega⟩]
  have x4 : q_i2c (q_bin 3 (m 165 i.toNat) 255) = m 165 i.toNat := s_and255 x0 x1
  refine z_C_wp [3] 20 s_P174 ?_
  refine z_C_wp [13, 17, 25] 40 s_P175 ?_
  show z_C 86 [.inl (m 125 3), .inl (q_bin 7 34 (m 125 1))] (z_st m (L, 165, [(2,34)], sl)) _
  rw [e3]
  refine c_min (by unfold z_ok2; omega) ?_
  rw [show (if m 125 3 < 34 then m 125 3 else 34) = m 125 3 by split <;> omega]
  refine z_wp_T (cd := q_c175) (cs := [17, 25]) rfl 20 13 _ _ _ _ ?_
  refine s_checkIndex i0 i1 (by omega) ?_
  refine z_wp_T (cd := q_c175) (cs := [25]) rfl 20 17 _ _ _ _ ?_
  apply And.intro
  · intro h
    have h : q_cond 1 (q_w (m 125 1)) 0 = true := h
    rw [h1] at h
    exact absurd h (by decide)
  · intro _
    apply And.intro
    · show 0 ≤ i ∧ i < ((34 : Nat) : Int)
      omega
    · show z_T 175 25 _ [.inl (q_i2c (q_bin 3 (m 165 i.toNat) 255))] _ _
      rw [x4]
      refine z_T_ret (i := (51, 4, 0, 0, [])) rfl rfl (q4 51 0 0 0 [] _ x0 x1) ?_
      refine z_T_ret (i := (51, 4, 0, 0, [])) rfl rfl (q4 51 0 0 0 [] _ x0 x1) ?_
      exact kk
set_option maxRecDepth 10000 in
theorem s_charAt_c {L sl : Nat} {m : z_M} {Q : q_V → q_S → Prop} {i : Int} (h1 : m 125 1 = 0) (h3 : 0 ≤ m 125 3 ∧ m 125 3 ≤ 70) (i0 : 0 ≤ i) (i1 : i < m 125 3) (x0 : 0 ≤ m 166 i.toNat) (x1 : m 166 i.toNat < 128) (kk : Q (.inl (m 166 i.toNat)) (z_st m (L, 166, [(2,34),(2,70)], sl))) : z_C 174 [.inr (.inr 125), .inl i] (z_st m (L, 166, [(2,34),(2,70)], sl)) Q := by
  have e3 : q_bin 7 70 (m 125 1) = 70 := by rw [h1]; exact s_shr0 70 (by decide)
  have q4 : ∀ (a b c : Nat) (z : Int) (t : List Nat) (x : Int), 0 ≤ x → x < 128 → q_ret (a, 4, b, z, t) [.inl x] = some (.inl x) := fun a b c z t x q0 q1 => by
    show (if 0 ≤ x ∧ x < 256 then (some (.inl x) : Option q_V) else none) = _
    rw [if_pos ⟨q0, by omega⟩]
  have x4 : q_i2c (q_bin 3 (m 166 i.toNat) 255) = m 166 i.toNat := s_and255 x0 x1
  refine z_C_wp [3] 20 s_P174 ?_
  refine z_C_wp [13, 17, 25] 40 s_P175 ?_
  show z_C 86 [.inl (m 125 3), .inl (q_bin 7 70 (m 125 1))] (z_st m (L, 166, [(2,34),(2,70)], sl)) _
  rw [e3]
  refine c_min (by unfold z_ok2; omega) ?_
  rw [show (if m 125 3 < 70 then m 125 3 else 70) = m 125 3 by split <;> omega]
  refine z_wp_T (cd := q_c175) (cs := [17, 25]) rfl 20 13 _ _ _ _ ?_
  refine s_checkIndex i0 i1 (by omega) ?_
  refine z_wp_T (cd := q_c175) (cs := [25]) rfl 20 17 _ _ _ _ ?_
  apply And.intro
  · intro h
    have h : q_cond 1 (q_w (m 125 1)) 0 = true := h
    rw [h1] at h
    exact absurd h (by decide)
  · intro _
    apply And.intro
    · show 0 ≤ i ∧ i < ((70 : Nat) : Int)
      omega
    · show z_T 175 25 _ [.inl (q_i2c (q_bin 3 (m 166 i.toNat) 255))] _ _
      rw [x4]
      refine z_T_ret (i := (51, 4, 0, 0, [])) rfl rfl (q4 51 0 0 0 [] _ x0 x1) ?_
      refine z_T_ret (i := (51, 4, 0, 0, [])) rfl rfl (q4 51 0 0 0 [] _ x0 x1) ?_
      exact kk
theorem p_paper {L : Nat} {m : z_M} {g : z_g} {i : Int} (hI : I L m g) (hi : z_ok i) : z_pI (I L) 173 283 [.inl i] m g := by
  have hW := hI.2.2.2.2.2.2.2.2.2.2.1
  have hg := hI.1
  obtain ⟨w1, w2, w3, w4, w5, w6, w7, w8⟩ := hW
  have mno : ¬ (0 ≤ i ∧ i < m 125 3) → ∃ v m1 g1, (.inl (-1) : q_V) = .inl v ∧ z_st m g = z_st m1 g1 ∧ (∀ j, m1 1001 j = m 1001 j) ∧ g1.1 = g.1 ∧ z_C 283 [.inr (.inr 131), .inl i] (z_st m1 g1) (fun r' S'' => ∃ v' m2 g2, r' = .inl v' ∧ S'' = z_st m2 g2 ∧ q_w v = q_w v' ∧ I L m2 g2) := fun hno => by
    refine ⟨-1, m, g, rfl, rfl, fun _ => rfl, rfl, y_283 ?_⟩
    rw [w4]
    exact n_isIn hi (by unfold z_ok; omega) (by unfold z_ok; omega) (fun h1 h2 => absurd ⟨h1, by omega⟩ hno) (fun _ => y_283_7 ⟨(by unfold z_ok; omega), fun _ => p_m rfl hI, (fun h => absurd h (by omega))⟩)
  have myes : ∀ v, 0 ≤ i → i < m 125 3 → m 157 i.toNat = v → z_C 283 [.inr (.inr 131), .inl i] (z_st m g) (fun r' S'' => ∃ v' m2 g2, r' = .inl v' ∧ S'' = z_st m2 g2 ∧ q_w v = q_w v' ∧ I L m2 g2) := fun v h0 h1 hv => by
    refine y_283 ?_
    rw [w4]
    exact n_isIn hi (by unfold z_ok; omega) (by unfold z_ok; omega) (fun h2 h3 => y_283_7 ⟨(by unfold z_ok; omega), (fun h => absurd h (by omega)), fun _ => ⟨⟨by omega, by omega⟩, p_m hv.symm hI⟩⟩) (fun hno => absurd ⟨h0, by omega⟩ hno)
  refine z_C_wp [7, 9, 2, 6] 40 s_P173 ?_
  have t7 : ¬ (0 ≤ i ∧ i < m 125 3) → ∀ Q : q_V → q_S → Prop, Q (.inl (-1)) (z_st m g) → z_T 173 7 [.inr (.inr 0), .inl i] [] (z_st m g) Q := fun _ Q h => by
    refine z_wp_T (cd := q_c173) (cs := []) rfl 20 7 _ _ _ _ ?_
    exact h
  apply And.intro
  · intro h
    have h : q_cond 2 (q_w i) 0 = true := h
    rw [z_c0 hi] at h
    have h : i < 0 := of_decide_eq_true h
    exact t7 (by omega) _ (mno (by omega))
  · intro h
    have h : q_cond 2 (q_w i) 0 = false := h
    rw [z_c0 hi] at h
    have h0 : ¬ i < 0 := of_decide_eq_false h
    refine z_wp_T (cd := q_c173) (cs := [6, 7, 9]) rfl 20 2 _ _ _ _ ?_
    refine c_textLength ?_
    refine z_wp_T (cd := q_c173) (cs := [7, 9]) rfl 20 6 _ _ _ _ ?_
    apply And.intro
    · intro h
      have h : q_cond 2 (q_w i) (q_w (m 125 3)) = true := h
      rw [z_c hi (s_ok (by omega) (by omega))] at h
      have h1 : i < m 125 3 := of_decide_eq_true h
      have w7' := w7 i.toNat (by omega)
      have fin := fun (v : Int) hv => (⟨v, m, g, rfl, rfl, fun _ => rfl, rfl, myes v (by omega) h1 hv⟩ : ∃ v' m1 g1, (.inl v : q_V) = .inl v' ∧ z_st m g = z_st m1 g1 ∧ (∀ j, m1 1001 j = m 1001 j) ∧ g1.1 = g.1 ∧ z_C 283 [.inr (.inr 131), .inl i] (z_st m1 g1) (fun r' S'' => ∃ v'' m2 g2, r' = .inl v'' ∧ S'' = z_st m2 g2 ∧ q_w v' = q_w v'' ∧ I L m2 g2))
      have fin := fin (m g.2.1 i.toNat) w7'.1
      refine z_wp_T (cd := q_c173) (cs := []) rfl 20 9 _ _ _ _ ?_
      obtain ⟨q1, q2, q3, q4⟩ := g
      obtain ⟨e1, w | w | w⟩ := hg
      · obtain ⟨e2, e3, e4⟩ := w
        dsimp only at e1 e2 e3 w5 w6 w7' fin
        subst e2 e3
        exact s_charAt_a w1 ⟨w2, w5 rfl⟩ (by omega) h1 w7'.2.1 w7'.2.2 fin
      · obtain ⟨e2, e3, e4⟩ := w
        dsimp only at e1 e2 e3 w5 w6 w7' fin
        subst e2 e3
        exact s_charAt_b w1 ⟨w2, w6 rfl⟩ (by omega) h1 w7'.2.1 w7'.2.2 fin
      · obtain ⟨e2, e3, e4⟩ := w
        dsimp only at e1 e2 e3 w5 w6 w7' fin
        subst e2 e3
        exact s_charAt_c w1 ⟨w2, by omega⟩ (by omega) h1 w7'.2.1 w7'.2.2 fin
    · intro h
      have h : q_cond 2 (q_w i) (q_w (m 125 3)) = false := h
      rw [z_c hi (s_ok (by omega) (by omega))] at h
      have h1 : ¬ i < m 125 3 := of_decide_eq_false h
      exact t7 (by omega) _ (mno (by omega))
