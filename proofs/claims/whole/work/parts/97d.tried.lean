/-! PAIRS: tried, reason -/
def t_fl (m : z_M) (c j a b : Nat) (l : List (Int × Int)) : Prop := m c j = (l.length : Int) ∧ ∀ i, i < l.length → m a i = (l.getD i (0, 0)).1 ∧ m b i = (l.getD i (0, 0)).2
theorem t_fl_add {m m' : z_M} {c j a b : Nat} {l : List (Int × Int)} {k v : Int} (h : t_fl m c j a b l) (h1 : m' c j = m c j + 1) (h2 : m' a l.length = k ∧ m' b l.length = v) (h3 : ∀ i, i < l.length → m' a i = m a i ∧ m' b i = m b i) : t_fl m' c j a b (l ++ [(k, v)]) := by
  refine ⟨by rw [h1, h.1, List.length_append]; rfl, fun i hi => ?_⟩
  rw [List.length_append] at hi
  have hi : i < l.length + 1 := hi
  by_cases hil : i = l.length
  · subst hil
    rw [List.getD_eq_getElem?_getD, List.getElem?_append_right (Nat.le_refl _), Nat.sub_self]
    exact h2
  · obtain ⟨e1, e2⟩ := h3 i (by omega)
    rw [List.getD_eq_getElem?_getD, List.getElem?_append_left (by omega), ← List.getD_eq_getElem?_getD, e1, e2]
    exact h.2 i (by omega)
theorem c_add {m : z_M} {g : z_g} {Q : q_V → q_S → Prop} {l : List (Int × Int)} {k v : Int} (h : t_fl m 127 0 128 129 l) (hl : l.length < 3) (kk : ∀ m', t_sam 127 129 m m' → t_fl m' 127 0 128 129 (l ++ [(k, v)]) → Q q_dead (z_st m' g)) : z_C 116 [.inr (.inr 127), .inl k, .inl v] (z_st m g) Q := by
  have e := h.1
  refine y_116 ⟨(by unfold z_ok2; omega), (fun h => absurd h (by omega)), fun _ => ⟨⟨by omega, by omega⟩, ⟨by omega, by omega⟩, ?_⟩⟩
  have en : (m 127 0).toNat = l.length := by omega
  refine kk _ (fun a j ha => ?_) (t_fl_add h ?_ ⟨?_, ?_⟩ (fun i hi => ⟨?_, ?_⟩))
  · rw [z_un (by omega), z_un (by omega), z_un (by omega)]
  · rw [z_ue rfl rfl]
  · rw [z_un (by omega), z_un (by omega), z_ue rfl en.symm]
  · rw [z_un (by omega), z_ue rfl en.symm]
  · rw [z_un (by omega), z_un (by omega), z_un (by omega)]
  · rw [z_un (by omega), z_un (by omega), z_un (by omega)]
theorem n_fails {m : z_M} {g : z_g} {Q : q_V → q_S → Prop} {l : List (Int × Int)} {k v : Int} (h : t_fl m 131 25 149 150 l) (hl : l.length < 3) (kk : ∀ m', (∀ a j, ¬ a = 149 → ¬ a = 150 → ¬ (a = 131 ∧ j = 25) → m' a j = m a j) → t_fl m' 131 25 149 150 (l ++ [(k, v)]) → Q q_dead (z_st m' g)) : z_C 253 [.inr (.inr 131), .inl k, .inl v] (z_st m g) Q := by
  have e := h.1
  refine y_253 ⟨⟨by omega, by omega⟩, ⟨by omega, by omega⟩, ?_⟩
  have en : (m 131 25).toNat = l.length := by omega
  refine kk _ (fun a j h1 h2 h3 => ?_) (t_fl_add h ?_ ⟨?_, ?_⟩ (fun i hi => ⟨?_, ?_⟩))
  · rw [z_un (by omega), z_un (by omega), z_un (by omega)]
  · rw [z_ue rfl rfl]
  · rw [z_un (by omega), z_un (by omega), z_ue rfl en.symm]
  · rw [z_un (by omega), z_ue rfl en.symm]
  · rw [z_un (by omega), z_un (by omega), z_un (by omega)]
  · rw [z_un (by omega), z_un (by omega), z_un (by omega)]
/-- trial and failures of a sum at x -/
def r_tr (m : z_M) (s x : Int) [Decidable (s_fm m s x)] : Int × List (Int × Int) := if ¬ v_at (s_p m) (s_N m s) x = 0 then (1, [(10, s), (1, v_at (s_p m) (s_N m s) x)]) else if ¬ s_at (s_p m) (s_N m s) x = 0 then (2, [(10, s), (2, s_at (s_p m) (s_N m s) x), (6, r_bc (r_doubles (s_p m) (s_N m s)))]) else if ¬ r_res (s_p m) (s_S m s) (s_N m s) = 0 then (3, [(10, s), (3, r_res (s_p m) (s_S m s) (s_N m s))]) else if s_fm m s x then (0, []) else (4, [(10, s), (4, (x_many (s_S m s) : Int)), (7, r_bc (r_roots (s_p m) (s_N m s)))])
theorem r_res_rng {p : Int} {S : Nat} {N : Nat → Int} (hp : z_pr p) : 0 ≤ r_res p S N ∧ r_res p S N < p := by
  have hp5 := z_pr_le hp
  have key : ∀ (d n c : Nat) (A : x_A) (is : Int), 0 ≤ is → is < p → 0 ≤ x_det p n d c A is ∧ x_det p n d c A is < p := by
    intro d
    induction d with
    | zero => intro n c A is h1 h2; exact ⟨h1, h2⟩
    | succ d ih =>
      intro n c A is h1 h2
      unfold x_det
      split
      · omega
      · split
        · have := z_m0 (p := p) (a := is * A c c) (by omega)
          exact ih n _ _ _ this.1 this.2
        · have := z_m0 (p := p) (a := (-is) % p * x_swp A (x_fst (fun i => decide (¬ A i c = 0)) (n - c) c) c c c) (by omega)
          exact ih n _ _ _ this.1 this.2
  exact key _ _ _ _ _ (by decide) (by omega)
theorem r_set_lt {p : Int} {N : Nat → Int} (hp : z_pr p) : r_doubles p N < 2147483648 ∧ r_roots p N < 2147483648 := by
  have hp5 := z_pr_le hp
  have h1 := x_bits_lt (fun x => decide (1 ≤ x) && (decide (v_at p N x = 0) && decide (s_at p N x = 0))) p.toNat
  have h2 := x_bits_lt (fun x => decide (1 ≤ x) && decide (v_at p N x = 0)) p.toNat
  have h3 : 2 ^ p.toNat ≤ 2 ^ 31 := Nat.pow_le_pow_right (by decide) (by omega)
  unfold r_doubles r_roots
  omega
theorem c_tried {m : z_M} {g : z_g} {Q : q_V → q_S → Prop} {s x : Int} [Decidable (s_fm m s x)] (hC : i_C m) (hZ : i_Z m) (h0 : 0 ≤ s) (h1 : s < m 1 3) (x0 : 1 ≤ x) (x1 : x < s_p m) (kk : ∀ m', (∀ a j, (a < 29 ∨ 108 < a) → (a < 127 ∨ 129 < a) → m' a j = m a j) → i_T m' → i_Z m' → t_fl m' 127 0 128 129 (r_tr m s x).2 → Q (.inl (r_tr m s x).1) (z_st m' g)) : z_T 112 9 [.inr (.inr 0), .inl s, .inl x, q_dead] [.inl 1] (z_st m g) Q := by
  have hV := hC.1
  have hp := s_p_pr hV
  have hp5 := z_pr_le hp
  have hN := s_N_N (s := s) hV
  have hSV := (s_S_V hV h0 h1).1
  have h6 := hSV.2
  have hS2 : s_S m s < 2147483648 := by have := hSV.1; omega
  obtain ⟨hd, hr⟩ := r_set_lt (N := s_N m s) hp
  refine y_112_9 ⟨(by unfold z_ok; omega), fun _ => c_lookAt hC h0 h1 fun m1 f1 hT1 h4 h5 => y_112_15 (y_113 (y_112_18 ?_)), fun h => absurd h (by decide)⟩
  have hT : t_TT (q_upd m1 127 0 0) (s_p m) (s_S m s) (s_N m s) := t_T_sam (b := 127) (h := 127) hT1 (by decide) (fun a j ha => by rw [z_un (by omega)])
  have hz : (q_upd m1 127 0 0) 72 12 = 0 := by rw [z_un (by omega), f1 72 12 (by omega)]; exact hZ
  have hfl : t_fl (q_upd m1 127 0 0) 127 0 128 129 [] := ⟨z_ue rfl rfl, fun i hi => absurd hi (Nat.not_lt_zero _)⟩
  have f1' : ∀ a j, (a < 29 ∨ 68 < a) → (a < 127 ∨ 129 < a) → (q_upd m1 127 0 0) a j = m a j := fun a j h2 h3 => by rw [z_un (by omega)]; exact f1 a j h2
  generalize (q_upd m1 127 0 0) = m2 at hT hz hfl f1'
  have fin : ∀ m3, t_sam 69 129 m2 m3 → (∀ a j, 108 < a → (a < 127 ∨ 129 < a) → m3 a j = m2 a j) → m3 72 12 = 0 → (∀ a j, (a < 29 ∨ 108 < a) → (a < 127 ∨ 129 < a) → m3 a j = m a j) ∧ i_T m3 ∧ i_Z m3 := fun m3 g1 g2 g3 => by
    refine ⟨fun a j h2 h3 => ?_, Or.inr ⟨_, t_F_sam hT.1 (by decide) g1⟩, g3⟩
    by_cases ha : 108 < a
    · rw [g2 a j ha h3, f1' a j (by omega) h3]
    · rw [g1 a j (by omega), f1' a j (by omega) h3]
  unfold r_tr at kk
  refine y_114 (c_valueAt h6.2 hT hN (by omega) x1 (y_114_4 ?_))
  have a1 := v_at_rng (N := s_N m s) (x := x) hp
  have a2 := s_at_rng (N := s_N m s) (x := x) hp
  have a3 := r_res_rng (S := s_S m s) (N := s_N m s) hp
  refine ⟨(by unfold z_ok; omega), fun v0 => c_slopeAt h6.2 hT hN (by omega) x1 (y_114_11 ⟨(by unfold z_ok; omega), fun s0 => c_resT hSV hT hN hz fun m3 g1 gz => y_114_16 ⟨(by unfold z_ok; omega), fun r0 => ?_, fun r0 => ?_⟩, fun s0 => ?_⟩), fun v0 => ?_⟩
  · -- trials 1 to 3 hold
    have hT3 := t_T_sam hT (by decide) g1
    rw [if_neg (fun h => h v0), if_neg (fun h => h s0), if_neg (fun h => h r0)] at kk
    refine c_solve' hSV hT3 hN (by omega) x1 (fun hs m4 b f2 _ _ _ => y_114_25 ⟨(by unfold z_ok; omega), fun h => absurd h (by decide), fun _ => y_112_21 ⟨(by unfold z_ok; omega), fun _ => y_112_29 ?_, fun h => absurd rfl h⟩⟩) (fun hs m4 f2 => y_114_25 ⟨(by unfold z_ok; omega), fun _ => y_112_21 ⟨(by unfold z_ok; omega), fun h => absurd h (by decide), fun _ => ?_⟩, fun h => absurd rfl h⟩)
    · have hs : s_fm m s x := hs
      rw [if_pos hs] at kk
      obtain ⟨q1, q2, q3⟩ := fin m4 (fun a j ha => by rw [f2 a j (by omega), g1 a j (by omega)]) (fun a j ha hb => by rw [f2 a j (by omega), g1 a j (by omega)]) (by rw [f2 72 12 (by omega)]; exact gz)
      refine kk m4 q1 q2 q3 ⟨?_, fun i hi => absurd hi (Nat.not_lt_zero _)⟩
      rw [f2 127 0 (by omega), g1 127 0 (by omega)]
      exact hfl.1
    · have hs : ¬ s_fm m s x := hs
      rw [if_neg hs] at kk
      have hfl4 : t_fl m4 127 0 128 129 [] := ⟨by rw [f2 127 0 (by omega), g1 127 0 (by omega)]; exact hfl.1, fun i hi => absurd hi (Nat.not_lt_zero _)⟩
      have hT4 := t_T_sam hT3 (by decide) f2
      refine y_115 (c_add hfl4 (by simp) fun m5 j1 j2 => y_115_5 ⟨by unfold z_ok2; decide, fun _ => ⟨by unfold z_ok2; decide, fun _ => ⟨by unfold z_ok2; decide, fun _ => ?_, fun h => absurd h (by decide)⟩, fun h => absurd h (by decide)⟩, fun h => absurd h (by decide)⟩)
      rw [(t_T_sam hT4 (by decide) j1).2.1.1]
      refine c_add j2 (by simp) fun m6 l1 l2 => y_115_55 ?_
      have hT6 := t_T_sam (t_T_sam hT4 (by decide) j1) (by decide) l1
      refine c_roots h6.2 hT6 hN (y_115_61 (c_bitCount rfl hr (y_115_62 (c_add l2 (by simp) fun m7 o1 o2 => y_115_63 (y_112_29 ?_)))))
      obtain ⟨q1, q2, q3⟩ := fin m7 (fun a j ha => by rw [o1 a j (by omega), l1 a j (by omega), j1 a j (by omega), f2 a j (by omega), g1 a j (by omega)]) (fun a j ha hb => by rw [o1 a j (by omega), l1 a j (by omega), j1 a j (by omega), f2 a j (by omega), g1 a j (by omega)]) (by rw [o1 72 12 (by omega), l1 72 12 (by omega), j1 72 12 (by omega), f2 72 12 (by omega)]; exact gz)
      exact kk m7 q1 q2 q3 o2
  · rw [if_neg (fun h => h v0), if_neg (fun h => h s0), if_pos r0] at kk
    have hT3 := t_T_sam hT (by decide) g1
    have hfl3 : t_fl m3 127 0 128 129 [] := ⟨by rw [g1 127 0 (by omega)]; exact hfl.1, fun i hi => absurd hi (Nat.not_lt_zero _)⟩
    refine y_112_21 ⟨(by unfold z_ok; omega), fun h => absurd h (by decide), fun _ => y_115 (c_add hfl3 (by simp) fun m5 j1 j2 => y_115_5 ⟨by unfold z_ok2; decide, fun _ => ⟨by unfold z_ok2; decide, fun _ => ⟨by unfold z_ok2; decide, fun h => absurd rfl h, fun _ => ?_⟩, fun h => absurd h (by decide)⟩, fun h => absurd h (by decide)⟩)⟩
    refine c_resT hSV (t_T_sam hT3 (by decide) j1) hN (by rw [j1 72 12 (by omega)]; exact gz) fun m6 l1 lz => y_115_45 (c_add (l := [(10, s)]) ⟨by rw [l1 127 0 (by omega)]; exact j2.1, fun i hi => by rw [l1 128 i (by omega), l1 129 i (by omega)]; exact j2.2 i hi⟩ (by simp) fun m7 o1 o2 => y_115_46 (y_115_63 (y_112_29 ?_)))
    obtain ⟨q1, q2, q3⟩ := fin m7 (fun a j ha => by rw [o1 a j (by omega), l1 a j (by omega), j1 a j (by omega), g1 a j (by omega)]) (fun a j ha hb => by rw [o1 a j (by omega), l1 a j (by omega), j1 a j (by omega), g1 a j (by omega)]) (by rw [o1 72 12 (by omega)]; exact lz)
    exact kk m7 q1 q2 q3 o2
  · rw [if_neg (fun h => h v0), if_pos s0] at kk
    refine y_112_21 ⟨(by unfold z_ok; omega), fun h => absurd h (by decide), fun _ => y_115 (c_add hfl (by simp) fun m5 j1 j2 => y_115_5 ⟨by unfold z_ok2; decide, fun _ => ⟨by unfold z_ok2; decide, fun h => absurd rfl h, fun _ => ?_⟩, fun h => absurd h (by decide)⟩)⟩
    have hT5 := t_T_sam hT (by decide) j1
    refine c_slopeAt h6.2 hT5 hN (by omega) x1 (y_115_27 (c_add j2 (by simp) fun m6 l1 l2 => y_115_28 ?_))
    have hT6 := t_T_sam hT5 (by decide) l1
    refine c_doubles h6.2 hT6 hN (y_115_34 (c_bitCount rfl hd (y_115_35 (c_add l2 (by simp) fun m7 o1 o2 => y_115_36 (y_115_63 (y_112_29 ?_))))))
    obtain ⟨q1, q2, q3⟩ := fin m7 (fun a j ha => by rw [o1 a j (by omega), l1 a j (by omega), j1 a j (by omega)]) (fun a j ha hb => by rw [o1 a j (by omega), l1 a j (by omega), j1 a j (by omega)]) (by rw [o1 72 12 (by omega), l1 72 12 (by omega), j1 72 12 (by omega)]; exact hz)
    exact kk m7 q1 q2 q3 o2
  · rw [if_pos v0] at kk
    refine y_112_21 ⟨(by unfold z_ok; omega), fun h => absurd h (by decide), fun _ => y_115 (c_add hfl (by simp) fun m5 j1 j2 => y_115_5 ⟨by unfold z_ok2; decide, fun h => absurd rfl h, fun _ => ?_⟩)⟩
    refine c_valueAt h6.2 (t_T_sam hT (by decide) j1) hN (by omega) x1 (y_115_15 (c_add j2 (by simp) fun m7 o1 o2 => y_115_16 (y_115_63 (y_112_29 ?_))))
    obtain ⟨q1, q2, q3⟩ := fin m7 (fun a j ha => by rw [o1 a j (by omega), j1 a j (by omega)]) (fun a j ha hb => by rw [o1 a j (by omega), j1 a j (by omega)]) (by rw [o1 72 12 (by omega), j1 72 12 (by omega)]; exact hz)
    exact kk m7 q1 q2 q3 o2
/-- the model's frame of a trial -/
def n_tr (m m' : z_M) : Prop := ∀ a j, ¬ (138 ≤ a ∧ a ≤ 150) → ¬ (a = 131 ∧ (j = 16 ∨ j = 18 ∨ j = 25)) → m' a j = m a j
theorem n_failsBy {m : z_M} {g : z_g} {Q : q_V → q_S → Prop} {p : Int} {N : Nat → Int} {s t o : Int} (h : n_P m p) (hR : t_R m 138 N) (hN : x_R p N) (hl : t_fl m 131 25 149 150 []) (ht : 1 ≤ t ∧ t ≤ 4) (kk : ∀ m', n_tr m m' → t_fl m' 131 25 149 150 (if t = 2 then [(10, s), (t, o), (6, r_bc (r_doubles p N))] else if t = 4 then [(10, s), (t, o), (7, r_bc (r_roots p N))] else [(10, s), (t, o)]) → Q (.inl t) (z_st m' g)) : z_C 252 [.inr (.inr 131), .inl s, .inl t, .inl o] (z_st m g) Q := by
  have hp := h.1
  obtain ⟨hd, hr⟩ := r_set_lt (N := N) hp
  refine y_252 (n_fails hl (by simp) fun m1 f1 g1 => y_252_4 (n_fails g1 (by simp) fun m2 f2 g2 => y_252_8 ?_))
  have hP2 : n_P m2 p := n_P_fr h ⟨by rw [f2 131 1 (by omega) (by omega) (by omega), f1 131 1 (by omega) (by omega) (by omega)], fun a j h1 h2 => by rw [f2 a j (by omega) (by omega) (by omega), f1 a j (by omega) (by omega) (by omega)]⟩
  have hR2 : t_R m2 138 N := fun i hi => by rw [f2 138 i (by omega) (by omega) (by omega), f1 138 i (by omega) (by omega) (by omega)]; exact hR i hi
  have fr2 : n_tr m m2 := fun a j h1 h2 => by rw [f2 a j (by omega) (by omega) (by omega), f1 a j (by omega) (by omega) (by omega)]
  refine ⟨(by unfold z_ok2; omega), fun t2 => y_252_18 ⟨(by unfold z_ok2; omega), fun t4 => y_252_28 ?_, fun t4 => ?_⟩, fun t2 => ?_⟩
  · rw [if_neg t2, if_neg t4] at kk
    exact kk m2 fr2 g2
  · rw [if_neg t2, if_pos t4] at kk
    refine n_rootsOf hP2 (by decide) hR2 hN fun m3 f3 => y_252_26 ?_
    rw [r_set_1]
    refine n_bits hr (y_252_27 (n_fails (l := [(10, s), (t, o)]) ⟨by rw [f3 131 25 (by omega)]; exact g2.1, fun i hi => by rw [f3 149 i (by omega), f3 150 i (by omega)]; exact g2.2 i hi⟩ (by simp) fun m4 f4 g4 => y_252_28 (kk m4 ?_ g4)))
    intro a j h1 h2
    rw [f4 a j (by omega) (by omega) (by omega), f3 a j (by omega)]
    exact fr2 a j h1 h2
  · rw [if_pos t2] at kk
    refine n_rootsOf hP2 (by decide) hR2 hN fun m3 f3 => y_252_16 ?_
    rw [r_set_2]
    refine n_bits hd (y_252_17 (n_fails (l := [(10, s), (t, o)]) ⟨by rw [f3 131 25 (by omega)]; exact g2.1, fun i hi => by rw [f3 149 i (by omega), f3 150 i (by omega)]; exact g2.2 i hi⟩ (by simp) fun m4 f4 g4 => y_252_18 ⟨(by unfold z_ok2; omega), fun t4 => y_252_28 (kk m4 ?_ g4), (fun h => absurd h (by omega))⟩))
    intro a j h1 h2
    rw [f4 a j (by omega) (by omega) (by omega), f3 a j (by omega)]
    exact fr2 a j h1 h2
theorem n_tried {m m1 : z_M} {g : z_g} {Q : q_V → q_S → Prop} {s x : Int} [Decidable (s_fm m s x)] (hS : n_S m1 s (s_p m) (s_S m s) (m 4 s.toNat) (m 5 s.toNat) (fun e => m (7 + s.toNat) e)) (hx : z_ok x) (x0 : 1 ≤ x) (x1 : x < s_p m) (kk : ∀ m', n_tr m1 m' → t_fl m' 131 25 149 150 (r_tr m s x).2 → Q (.inl (r_tr m s x).1) (z_st m' g)) : z_T 251 9 [.inr (.inr 131), .inl s, .inl x, q_dead] [.inl 1] (z_st m1 g) Q := by
  have hp := hS.1.1
  have hp5 := z_pr_le hp
  have hSV := hS.2.2.2.2.1
  have hS2 : s_S m s < 2147483648 := by have := hSV.1; omega
  have hNx : x_N (s_p m) (s_S m s) (s_N m s) := n_at_N hp
  have hN : x_R (s_p m) (s_N m s) := fun i _ => hNx.1 i
  have a1 := v_at_rng (N := s_N m s) (x := x) hp
  have a2 := s_at_rng (N := s_N m s) (x := x) hp
  have a3 := r_res_rng (S := s_S m s) (N := s_N m s) hp
  unfold r_tr at kk
  have hS0 : n_S (q_upd m1 131 25 0) s (s_p m) (s_S m s) (m 4 s.toNat) (m 5 s.toNat) (fun e => m (7 + s.toNat) e) := n_S_fr hS ⟨z_un (by omega), fun a j h1 h2 => z_un (by omega)⟩
  refine y_251_9 ⟨(by unfold z_ok; omega), fun _ => n_looks hS0 fun m2 f2 hR => y_251_18 ?_, fun h => absurd h (by decide)⟩
  have hR : t_R m2 138 (s_N m s) := hR
  have hfr2 : n_fr (q_upd m1 131 25 0) m2 := ⟨f2 131 1 (by omega), fun a j _ _ => f2 a j (by omega)⟩
  have hS2' := n_S_fr hS0 hfr2
  have hP2 := hS2'.1
  have hl2 : t_fl m2 131 25 149 150 [] := ⟨by rw [f2 131 25 (by omega)]; exact z_ue rfl rfl, fun i hi => absurd hi (Nat.not_lt_zero _)⟩
  have fr2 : n_tr m1 m2 := fun a j h1 h2 => by rw [f2 a j (by omega), z_un (by omega)]
  refine n_valueAt hP2 hR hN (by omega) x1 (y_251_21 ⟨(by unfold z_ok; omega), fun v0 => n_slopeAt hP2 hR hN (by omega) x1 (y_251_33 ⟨(by unfold z_ok; omega), fun s0 => n_resultantOf hS2' fun m3 f3 => y_251_45 ?_, fun s0 => ?_⟩), fun v0 => ?_⟩)
  · have fr3 : n_tr m1 m3 := fun a j h1 h2 => by rw [f3 a j (by omega) (by omega) (by omega)]; exact fr2 a j h1 h2
    have hS3 := n_S_fr hS2' ⟨f3 131 1 (by omega) (by omega) (by omega), fun a j h1 h2 => f3 a j (by omega) (by omega) (by omega)⟩
    have hR3 : t_R m3 138 (s_N m s) := fun i hi => by rw [f3 138 i (by omega) (by omega) (by omega)]; exact hR i hi
    have hl3 : t_fl m3 131 25 149 150 [] := ⟨by rw [f3 131 25 (by omega) (by omega) (by omega)]; exact hl2.1, fun i hi => absurd hi (Nat.not_lt_zero _)⟩
    show z_ok (r_res (s_p m) (s_S m s) (s_N m s)) ∧ _
    refine ⟨(by unfold z_ok; omega), fun r0 => ?_, fun r0 => ?_⟩
    · have r0' : r_res (s_p m) (s_S m s) (s_N m s) = 0 := r0
      rw [if_neg (fun h => h v0), if_neg (fun h => h s0), if_neg (fun h => h r0')] at kk
      refine n_isFormedAt hS3 (by omega) x1 (fun hs m4 f4 _ => y_251_58 ⟨(by unfold z_ok; omega), fun h => absurd h (by decide), fun _ => y_251_69 ?_⟩) (fun hs m4 f4 => y_251_58 ⟨(by unfold z_ok; omega), fun _ => ?_, fun h => absurd rfl h⟩)
      · have hs : s_fm m s x := hs
        rw [if_pos hs] at kk
        refine kk m4 (fun a j h1 h2 => by rw [f4 a j (by omega)]; exact fr3 a j h1 h2) ⟨by rw [f4 131 25 (by omega)]; exact hl3.1, fun i hi => absurd hi (Nat.not_lt_zero _)⟩
      · have hs : ¬ s_fm m s x := hs
        rw [if_neg hs] at kk
        have hS4 := n_S_fr hS3 ⟨f4 131 1 (by omega), fun a j h1 h2 => f4 a j (by omega)⟩
        refine n_setOf hS4 (y_251_67 (n_many hS2 (y_251_68 (n_failsBy (N := s_N m s) hS4.1 (fun i hi => by rw [f4 138 i (by omega)]; exact hR3 i hi) hN ⟨by rw [f4 131 25 (by omega)]; exact hl3.1, fun i hi => absurd hi (Nat.not_lt_zero _)⟩ (by decide) fun m5 f5 g5 => y_251_69 (kk m5 ?_ ?_)))))
        · intro a j h1 h2
          rw [f5 a j h1 h2, f4 a j (by omega)]
          exact fr3 a j h1 h2
        · rw [if_neg (by decide), if_pos rfl] at g5; exact g5
    · have r0' : ¬ r_res (s_p m) (s_S m s) (s_N m s) = 0 := r0
      rw [if_neg (fun h => h v0), if_neg (fun h => h s0), if_pos r0'] at kk
      refine n_failsBy (N := s_N m s) hS3.1 hR3 hN hl3 (by decide) fun m5 f5 g5 => y_251_53 (kk m5 ?_ ?_)
      · intro a j h1 h2
        rw [f5 a j h1 h2]
        exact fr3 a j h1 h2
      · rw [if_neg (by decide), if_neg (by decide)] at g5; exact g5
  · rw [if_neg (fun h => h v0), if_pos s0] at kk
    refine n_slopeAt hP2 hR hN (by omega) x1 (y_251_40 (n_failsBy (N := s_N m s) hP2 hR hN hl2 (by decide) fun m5 f5 g5 => y_251_41 (kk m5 ?_ ?_)))
    · intro a j h1 h2
      rw [f5 a j h1 h2]
      exact fr2 a j h1 h2
    · rw [if_pos rfl] at g5; exact g5
  · rw [if_pos v0] at kk
    refine n_valueAt hP2 hR hN (by omega) x1 (y_251_28 (n_failsBy (N := s_N m s) hP2 hR hN hl2 (by decide) fun m5 f5 g5 => y_251_29 (kk m5 ?_ ?_)))
    · intro a j h1 h2
      rw [f5 a j h1 h2]
      exact fr2 a j h1 h2
    · rw [if_neg (by decide), if_neg (by decide)] at g5; exact g5
theorem I_Fl {L : Nat} {m m' : z_M} {g : z_g} (h : I L m g) (f : ∀ a j, ¬ z_scr a j → ¬ ((127 ≤ a ∧ a ≤ 129) ∨ a = 149 ∨ a = 150 ∨ (a = 131 ∧ j = 25)) → m' a j = m a j) (hT : i_T m') (hZ : i_Z m') (hF : i_F m') : I L m' g := by
  obtain ⟨h1, h2, h3, ⟨h4, -, h5⟩, -, h6, h7, h8, h9, h10, h11, -⟩ := h
  have hvp := i_vp h1
  have f : ∀ a j, (¬ z_scr a j ∧ ¬ ((127 ≤ a ∧ a ≤ 129) ∨ a = 149 ∨ a = 150 ∨ (a = 131 ∧ j = 25))) → m' a j = m a j := fun a j hh => f a j hh.1 hh.2
  unfold z_scr at f
  exact ⟨h1, i_Sc_of (fun j => f 1001 j (by omega)) h2, i_D_of (fun a j _ _ => f a j (by omega)) h3, ⟨i_V_of (fun a j _ _ => f a j (by omega)) h4, hT, i_P_of (fun j => f 1002 j (by omega)) h5⟩, hZ, i_R_of (fun a j _ => f a j (by omega)) h6, i_K_of (fun a j _ => f a j (by omega)) h7, i_St_of (fun a j _ => f a j (by omega)) h8, i_L_of (fun a j _ => f a j (by omega)) h9, i_X_of (fun a j _ => f a j (by omega)) h10, i_W_of (fun a j _ => f a j (by omega)) h11, hF⟩
theorem p_tried {L : Nat} {m : z_M} {g : z_g} {s x : Int} (hI : I L m g) (hs : z_ok s) (hx : z_ok x) : z_pI (I L) 112 251 [.inl s, .inl x] m g := by
  have := Classical.propDecidable (s_fm m s x)
  have hC := hI.2.2.2.1
  have hV := hC.1
  have hZ := hI.2.2.2.2.1
  have hR := hI.2.2.2.2.2.1
  by_cases c1 : 0 ≤ s ∧ s < m 1 3
  · by_cases c2 : 1 ≤ x ∧ x < s_p m
    · refine y_112 (c_isSumB hs hV (fun _ _ => y_112_3 ⟨(by unfold z_ok; omega), fun _ => c_isPoint hx hC (fun _ _ => c_tried hC hZ c1.1 c1.2 c2.1 c2.2 fun m1 f1 hT1 hZ1 hl1 => ?_) (fun hn => absurd c2 hn), fun h => absurd h (by decide)⟩) (fun hn => absurd c1 hn))
      refine ⟨_, m1, g, rfl, rfl, fun j => f1 1001 j (by omega) (by omega), rfl, ?_⟩
      have hS := I_nS (m' := m1) hV hR c1.1 c1.2 ⟨f1 131 1 (by omega) (by omega), fun a j _ _ => f1 a j (by omega) (by omega)⟩
      have e8 : m1 131 8 = m 1 3 := by rw [f1 131 8 (by omega) (by omega)]; exact hR.1.2.2.1
      refine y_251 (n_isSum hs e8 hV.2.2.1 (fun _ _ => y_251_3 ⟨(by unfold z_ok; omega), fun _ => n_isRoot hx hS.1 (fun _ _ => n_tried hS hx c2.1 c2.2 fun m2 f2 hl2 => ?_) (fun hn => absurd c2 hn), fun h => absurd h (by decide)⟩) (fun hn => absurd c1 hn))
      refine ⟨_, m2, g, rfl, rfl, rfl, I_Fl hI (fun a j h1 h2 => ?_) (i_T_of (fun a j h1 h2 => f2 a j (by omega) (by omega)) hT1) (by show m2 72 12 = 0; rw [f2 72 12 (by omega) (by omega)]; exact hZ1) ?_⟩
      · unfold z_scr at h1
        rw [f2 a j (by omega) (by omega), f1 a j (by omega) (by omega)]
      · have hlen : (r_tr m s x).2.length ≤ 3 := by
          unfold r_tr
          repeat' split
          all_goals simp
        have e0 : m2 127 0 = ((r_tr m s x).2.length : Int) := by rw [f2 127 0 (by omega) (by omega)]; exact hl1.1
        refine ⟨by omega, by omega, by rw [e0]; exact hl2.1, fun i hi => ?_⟩
        have hi2 : i < (r_tr m s x).2.length := by omega
        rw [f2 128 i (by omega) (by omega), f2 129 i (by omega) (by omega), (hl1.2 i hi2).1, (hl1.2 i hi2).2]
        exact hl2.2 i hi2
    · refine p_pair (-2) hI (fun Q kk => ?_) (fun m1 f Q kk => ?_)
      · exact y_112 (c_isSumB hs hV (fun _ _ => y_112_3 ⟨(by unfold z_ok; omega), fun _ => c_isPoint hx hC (fun h1 h2 => absurd ⟨h1, h2⟩ c2) (fun hn => y_112_9 ⟨(by unfold z_ok; omega), fun h => absurd rfl h, fun _ => kk m (c_Q_refl hC.2.1 hZ)⟩), fun h => absurd h (by decide)⟩) (fun hn => absurd c1 hn))
      · have hP := I_nP hV hR (c_Q_fr f)
        have e8 : m1 131 8 = m 1 3 := by rw [f.1 131 8 (by omega)]; exact hR.1.2.2.1
        exact y_251 (n_isSum hs e8 hV.2.2.1 (fun _ _ => y_251_3 ⟨(by unfold z_ok; omega), fun _ => n_isRoot hx hP (fun h1 h2 => absurd ⟨h1, h2⟩ c2) (fun hn => y_251_9 ⟨(by unfold z_ok; omega), fun h => absurd rfl h, fun _ => kk m1 n_Q_refl⟩), fun h => absurd h (by decide)⟩) (fun hn => absurd c1 hn))
  · refine p_pair (-1) hI (fun Q kk => ?_) (fun m1 f Q kk => ?_)
    · exact y_112 (c_isSumB hs hV (fun h1 h2 => absurd ⟨h1, h2⟩ c1) (fun hn => y_112_3 ⟨(by unfold z_ok; omega), fun h => absurd rfl h, fun _ => kk m (c_Q_refl hC.2.1 hZ)⟩))
    · have e8 : m1 131 8 = m 1 3 := by rw [f.1 131 8 (by omega)]; exact hR.1.2.2.1
      exact y_251 (n_isSum hs e8 hV.2.2.1 (fun h1 h2 => absurd ⟨h1, h2⟩ c1) (fun hn => y_251_3 ⟨(by unfold z_ok; omega), fun h => absurd rfl h, fun _ => kk m1 n_Q_refl⟩))
theorem p_reason {L : Nat} {m : z_M} {g : z_g} {i w : Int} (hI : I L m g) (hi : z_ok i) (hw : z_ok w) : z_pI (I L) 117 255 [.inl i, .inl w] m g := by
  have hC := hI.2.2.2.1
  have hZ := hI.2.2.2.2.1
  obtain ⟨f1, f2, f3, f4⟩ := hI.2.2.2.2.2.2.2.2.2.2.2
  refine p_pair (if (0 ≤ i ∧ i < m 127 0) ∧ 0 ≤ w ∧ w ≤ 1 then (if w = 0 then m 128 i.toNat else m 129 i.toNat) else -1) hI (fun Q kk => ?_) (fun m1 f Q kk => ?_)
  · have k0 := kk m (c_Q_refl hC.2.1 hZ)
    unfold z_ok at hi hw
    refine y_117 ⟨(by unfold z_ok; omega), fun h => ?_, fun i0 => ⟨(by unfold z_ok2; omega), fun h => ?_, fun i1 => ⟨(by unfold z_ok; omega), fun h => ?_, fun w0 => ⟨(by unfold z_ok2; omega), fun w1 => ⟨(by unfold z_ok; omega), fun h => ⟨⟨by omega, by omega⟩, ?_⟩, fun h => ⟨⟨by omega, by omega⟩, ?_⟩⟩, fun h => ?_⟩⟩⟩⟩
    · rw [if_neg (by omega)] at k0; exact k0
    · rw [if_neg (by omega)] at k0; exact k0
    · rw [if_neg (by omega)] at k0; exact k0
    · rw [if_pos (by omega), if_neg h] at k0; exact k0
    · rw [if_pos (by omega), if_pos h] at k0; exact k0
    · rw [if_neg (by omega)] at k0; exact k0
  · have k0 := kk m1 n_Q_refl
    have e25 : m1 131 25 = m 127 0 := by rw [f.1 131 25 (by omega)]; exact f3
    refine y_255 (n_isIn hi (by unfold z_ok; decide) (by unfold z_ok; omega) (fun i0 i1 => y_255_7 ⟨(by unfold z_ok; omega), fun h => absurd h (by decide), fun _ => n_isIn hw (by unfold z_ok; decide) (by unfold z_ok; decide) (fun w0 w1 => y_255_12 ⟨(by unfold z_ok; omega), fun _ => ⟨hw, fun h => ⟨⟨by omega, by omega⟩, ?_⟩, fun h => ⟨⟨by omega, by omega⟩, ?_⟩⟩, fun h => absurd h (by decide)⟩) (fun hn => y_255_12 ⟨(by unfold z_ok; omega), fun h => absurd rfl h, fun _ => ?_⟩)⟩) (fun hn => y_255_7 ⟨(by unfold z_ok; omega), fun _ => ?_, fun h => absurd rfl h⟩))
    · rw [if_pos (by omega), if_neg h] at k0
      rw [f.1 150 _ (by omega), (f4 i.toNat (by omega)).2]; exact k0
    · rw [if_pos (by omega), if_pos h] at k0
      rw [f.1 149 _ (by omega), (f4 i.toNat (by omega)).1]; exact k0
    · rw [if_neg (by omega)] at k0; exact k0
    · rw [if_neg (by omega)] at k0; exact k0
