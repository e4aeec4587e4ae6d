/-! THE INVARIANT: class and model, each part with the cells that it speaks of -/
def i_g (L : Nat) (g : z_g) : Prop := g.1 = L ∧ ((g.2.1 = 126 ∧ g.2.2.1 = [] ∧ g.2.2.2 ≤ 3000) ∨ (g.2.1 = 165 ∧ g.2.2.1 = [(2, 34)] ∧ g.2.2.2 ≤ 3040) ∨ (g.2.1 = 166 ∧ g.2.2.1 = [(2, 34), (2, 70)] ∧ g.2.2.2 ≤ 3120))
def i_Sc (m : z_M) : Prop := ∀ j, z_ok (m 1001 j)
def i_D (m : z_M) : Prop := ∀ j : Nat, j < 100 → m 1003 j = q_dt j ∧ m 1004 j = q_do j
def i_Z (m : z_M) : Prop := m 72 12 = 0
def i_R (m : z_M) : Prop := (m 131 1 = m 1 0 ∧ m 131 3 = m 1 1 ∧ m 131 8 = m 1 3 ∧ m 131 28 = m 1 8) ∧ (∀ i, i < 6 → m 133 i = m 2 i ∧ m 134 i = m 3 i ∧ m 135 i = m 4 i ∧ m 136 i = m 5 i) ∧ (∀ s e, s < 6 → e < 13 → m 137 (13 * s + e) = m (7 + s) e) ∧ (∀ i, i < 4 → m 151 i = m 13 i ∧ m 152 i = m 14 i) ∧ ∀ j, j < 9 → m 132 j = q_pr j
def z_up (m : z_M) : z_M := fun a j => m (a + 14) j
def i_K (m : z_M) : Prop := (m 0 2 = 0 ∧ m 131 47 = 0) ∨ (m 0 2 = 1 ∧ m 131 47 = 1 ∧ i_V (z_up m) ∧ (m 164 0 = m 15 0 ∧ m 164 1 = m 15 1 ∧ m 164 2 = m 15 3 ∧ m 164 3 = m 15 8) ∧ (∀ i, i < 6 → m 164 (4 + i) = m 16 i ∧ m 164 (10 + i) = m 17 i ∧ m 164 (16 + i) = m 18 i ∧ m 164 (22 + i) = m 19 i) ∧ (∀ s e, s < 6 → e < 13 → m 164 (28 + 13 * s + e) = m (21 + s) e) ∧ ∀ i, i < 4 → m 164 (106 + i) = m 27 i ∧ m 164 (110 + i) = m 28 i)
def i_stp (m : z_M) (i : Nat) : Prop := (m 110 i = 0 ∧ 0 ≤ m 111 i ∧ m 111 i < 9 ∧ m 158 i = -1 ∧ m 160 i = m 111 i) ∨ (m 110 i = 1 ∧ 0 ≤ m 111 i ∧ m 111 i < m 1 3 ∧ 0 ≤ m 112 i ∧ m 112 i ≤ 12 ∧ (s_S m (m 111 i)).testBit (m 112 i).toNat = true ∧ 0 ≤ m 113 i ∧ m 113 i ≤ 99 ∧ m 158 i = 13 * m 111 i + m 112 i ∧ m 160 i = m 113 i) ∨ (m 110 i = 2 ∧ 0 ≤ m 111 i ∧ m 111 i < m 1 3 ∧ 0 ≤ m 112 i ∧ m 112 i ≤ 5 ∧ 0 ≤ m 113 i ∧ m 113 i ≤ 9 ∧ m 158 i = -2 ∧ m 159 i = m 111 i ∧ m 160 i = 10 * m 112 i + m 113 i)
def i_St (m : z_M) : Prop := 0 ≤ m 109 0 ∧ m 109 0 ≤ 8 ∧ m 131 41 = m 109 0 ∧ ∀ i : Nat, (i : Int) < m 109 0 → i_stp m i
def z_okl (x : Int) : Prop := -9223372036854775808 ≤ x ∧ x < 9223372036854775808
def i_L (m : z_M) : Prop := ∀ l, l < 4 → -1 ≤ m 120 l ∧ m 120 l ≤ 20 ∧ m 161 l = m 120 l ∧ ∀ i, i < 20 → m 162 (20 * l + i) = m (116 + l) i ∧ z_okl (m (116 + l) i)
def i_X (m : z_M) : Prop := 0 ≤ m 121 1 ∧ m 121 1 ≤ 80 ∧ m 131 33 = m 121 1 ∧ ∀ i : Nat, (i : Int) < m 121 1 → m 154 i = m 122 i ∧ 0 ≤ m 122 i ∧ m 122 i ≤ 127
def i_W (m : z_M) (vp : Nat) : Prop := m 125 1 = 0 ∧ 0 ≤ m 125 3 ∧ m 125 3 ≤ 35 ∧ m 131 37 = m 125 3 ∧ (vp = 126 → m 125 3 ≤ 16) ∧ (vp = 165 → m 125 3 ≤ 34) ∧ (∀ i : Nat, (i : Int) < m 125 3 → m 157 i = m vp i ∧ 0 ≤ m vp i ∧ m vp i < 128) ∧ ∀ j : Nat, -128 ≤ m vp j ∧ m vp j < 128
def i_F (m : z_M) : Prop := 0 ≤ m 127 0 ∧ m 127 0 ≤ 3 ∧ m 131 25 = m 127 0 ∧ ∀ i : Nat, (i : Int) < m 127 0 → m 149 i = m 128 i ∧ m 150 i = m 129 i
def I (L : Nat) (m : z_M) (g : z_g) : Prop := i_g L g ∧ i_Sc m ∧ i_D m ∧ i_C m ∧ i_Z m ∧ i_R m ∧ i_K m ∧ i_St m ∧ i_L m ∧ i_X m ∧ i_W m g.2.1 ∧ i_F m
/-! each part stays where its cells do -/
theorem i_Sc_of {m m' : z_M} (f : ∀ j, m' 1001 j = m 1001 j) (h : i_Sc m) : i_Sc m' := fun j => by rw [f j]; exact h j
theorem i_D_of {m m' : z_M} (f : ∀ a j, 1003 ≤ a → a ≤ 1004 → m' a j = m a j) (h : i_D m) : i_D m' := fun j hj => by rw [f 1003 j (by omega) (by omega), f 1004 j (by omega) (by omega)]; exact h j hj
theorem i_V_of {m m' : z_M} (e : ∀ a j, 1 ≤ a → a ≤ 14 → m' a j = m a j) (hV : i_V m) : i_V m' := by
  unfold i_V at hV ⊢
  rw [e 1 0 (by omega) (by omega), e 1 1 (by omega) (by omega), e 1 3 (by omega) (by omega), e 1 8 (by omega) (by omega)]
  obtain ⟨g1, g2, g3, g4, g5, g6, g7⟩ := hV
  refine ⟨g1, g2, g3, g4, fun i hi => ?_, fun t ht => ?_, fun i hi => ?_⟩
  · rw [e 2 i (by omega) (by omega)]; exact g5 i hi
  · rw [e 3 t (by omega) (by omega), e 4 t (by omega) (by omega), e 5 t (by omega) (by omega)]
    obtain ⟨k1, k2, k3, k4, k5, k6, k7⟩ := g6 t ht
    refine ⟨k1, k2, k3, k4, k5, k6, fun i hi => ?_⟩
    rw [e (7 + t) i (by omega) (by omega)]; exact k7 i hi
  · rw [e 13 i (by omega) (by omega), e 14 i (by omega) (by omega)]; exact g7 i hi
theorem i_T_of {m m' : z_M} (f : ∀ a j, 29 ≤ a → a ≤ 62 → m' a j = m a j) (h : i_T m) : i_T m' := by
  rcases h with h | ⟨q, h1, h2, h3, h4⟩
  · left; rw [f 29 0 (by omega) (by omega)]; exact h
  · have hp5 := z_pr_le h1
    exact Or.inr ⟨q, h1, by rw [f 29 0 (by omega) (by omega)]; exact h2, fun x e hx he => by rw [f (31 + x) e (by omega) (by omega)]; exact h3 x e hx he, fun x hx => by rw [f 62 x (by omega) (by omega)]; exact h4 x hx⟩
theorem i_P_of {m m' : z_M} (f : ∀ j, m' 1002 j = m 1002 j) (h : i_P m) : i_P m' := fun j hj => by rw [f j]; exact h j hj
theorem i_R_of {m m' : z_M} (f : ∀ a j, (1 ≤ a ∧ a ≤ 14) ∨ (132 ≤ a ∧ a ≤ 137) ∨ a = 151 ∨ a = 152 ∨ (a = 131 ∧ (j = 1 ∨ j = 3 ∨ j = 8 ∨ j = 28)) → m' a j = m a j) (h : i_R m) : i_R m' := by
  obtain ⟨⟨a1, a2, a3, a4⟩, b, c, d, e⟩ := h
  refine ⟨⟨?_, ?_, ?_, ?_⟩, fun i hi => ?_, fun s k hs hk => ?_, fun i hi => ?_, fun j hj => ?_⟩
  · rw [f 131 1 (by omega), f 1 0 (by omega)]; exact a1
  · rw [f 131 3 (by omega), f 1 1 (by omega)]; exact a2
  · rw [f 131 8 (by omega), f 1 3 (by omega)]; exact a3
  · rw [f 131 28 (by omega), f 1 8 (by omega)]; exact a4
  · rw [f 133 i (by omega), f 134 i (by omega), f 135 i (by omega), f 136 i (by omega), f 2 i (by omega), f 3 i (by omega), f 4 i (by omega), f 5 i (by omega)]; exact b i hi
  · rw [f 137 _ (by omega), f (7 + s) k (by omega)]; exact c s k hs hk
  · rw [f 151 i (by omega), f 152 i (by omega), f 13 i (by omega), f 14 i (by omega)]; exact d i hi
  · rw [f 132 j (by omega)]; exact e j hj
theorem i_K_of {m m' : z_M} (f : ∀ a j, (a = 0 ∧ j = 2) ∨ (15 ≤ a ∧ a ≤ 28) ∨ a = 164 ∨ (a = 131 ∧ j = 47) → m' a j = m a j) (h : i_K m) : i_K m' := by
  rcases h with ⟨h1, h2⟩ | ⟨h1, h2, h3, ⟨a1, a2, a3, a4⟩, b, c, d⟩
  · exact Or.inl ⟨by rw [f 0 2 (by omega)]; exact h1, by rw [f 131 47 (by omega)]; exact h2⟩
  · refine Or.inr ⟨by rw [f 0 2 (by omega)]; exact h1, by rw [f 131 47 (by omega)]; exact h2, i_V_of (fun a j h1 h2 => f (a + 14) j (by omega)) h3, ⟨?_, ?_, ?_, ?_⟩, fun i hi => ?_, fun s k hs hk => ?_, fun i hi => ?_⟩
    · rw [f 164 0 (by omega), f 15 0 (by omega)]; exact a1
    · rw [f 164 1 (by omega), f 15 1 (by omega)]; exact a2
    · rw [f 164 2 (by omega), f 15 3 (by omega)]; exact a3
    · rw [f 164 3 (by omega), f 15 8 (by omega)]; exact a4
    · rw [f 164 _ (by omega), f 164 _ (by omega), f 164 _ (by omega), f 164 _ (by omega), f 16 i (by omega), f 17 i (by omega), f 18 i (by omega), f 19 i (by omega)]; exact b i hi
    · rw [f 164 _ (by omega), f (21 + s) k (by omega)]; exact c s k hs hk
    · rw [f 164 _ (by omega), f 164 _ (by omega), f 27 i (by omega), f 28 i (by omega)]; exact d i hi
theorem i_stp_of {m m' : z_M} {i : Nat} (f : ∀ a j, (110 ≤ a ∧ a ≤ 113) ∨ (158 ≤ a ∧ a ≤ 160) ∨ (a = 1 ∧ j = 3) ∨ a = 2 ∨ a = 3 → m' a j = m a j) (h : i_stp m i) : i_stp m' i := by
  have eS : ∀ s, s_S m' s = s_S m s := fun s => by unfold s_S; rw [f 3 _ (by omega), f 2 _ (by omega)]
  unfold i_stp at h ⊢
  rw [f 110 i (by omega), f 111 i (by omega), f 112 i (by omega), f 113 i (by omega), f 158 i (by omega), f 159 i (by omega), f 160 i (by omega), f 1 3 (by omega), eS]
  exact h
theorem i_St_of {m m' : z_M} (f : ∀ a j, (109 ≤ a ∧ a ≤ 113) ∨ (158 ≤ a ∧ a ≤ 160) ∨ (a = 131 ∧ j = 41) ∨ (a = 1 ∧ j = 3) ∨ a = 2 ∨ a = 3 → m' a j = m a j) (h : i_St m) : i_St m' := by
  obtain ⟨h1, h2, h3, h4⟩ := h
  refine ⟨?_, ?_, ?_, fun i hi => i_stp_of (fun a j hh => f a j (by omega)) (h4 i ?_)⟩
  · rw [f 109 0 (by omega)]; exact h1
  · rw [f 109 0 (by omega)]; exact h2
  · rw [f 131 41 (by omega), f 109 0 (by omega)]; exact h3
  · rw [f 109 0 (by omega)] at hi; exact hi
theorem i_L_of {m m' : z_M} (f : ∀ a j, (116 ≤ a ∧ a ≤ 120) ∨ a = 161 ∨ a = 162 → m' a j = m a j) (h : i_L m) : i_L m' := fun l hl => by
  obtain ⟨h1, h2, h3, h4⟩ := h l hl
  refine ⟨by rw [f 120 l (by omega)]; exact h1, by rw [f 120 l (by omega)]; exact h2, by rw [f 161 l (by omega), f 120 l (by omega)]; exact h3, fun i hi => ?_⟩
  rw [f 162 _ (by omega), f (116 + l) i (by omega)]
  exact h4 i hi
theorem i_X_of {m m' : z_M} (f : ∀ a j, (a = 121 ∧ j = 1) ∨ a = 122 ∨ a = 154 ∨ (a = 131 ∧ j = 33) → m' a j = m a j) (h : i_X m) : i_X m' := by
  obtain ⟨h1, h2, h3, h4⟩ := h
  have e := f 121 1 (by omega)
  refine ⟨by rw [e]; exact h1, by rw [e]; exact h2, by rw [e, f 131 33 (by omega)]; exact h3, fun i hi => ?_⟩
  rw [e] at hi
  rw [f 154 i (by omega), f 122 i (by omega)]
  exact h4 i hi
theorem i_W_of {m m' : z_M} {vp : Nat} (f : ∀ a j, a = 125 ∨ a = vp ∨ a = 157 ∨ (a = 131 ∧ j = 37) → m' a j = m a j) (h : i_W m vp) : i_W m' vp := by
  obtain ⟨h1, h2, h3, h4, h5, h6, h7, h8⟩ := h
  have e := f 125 3 (by omega)
  refine ⟨by rw [f 125 1 (by omega)]; exact h1, by rw [e]; exact h2, by rw [e]; exact h3, by rw [e, f 131 37 (by omega)]; exact h4, by rw [e]; exact h5, by rw [e]; exact h6, fun i hi => ?_, fun j => by rw [f vp j (by omega)]; exact h8 j⟩
  rw [e] at hi
  rw [f 157 i (by omega), f vp i (by omega)]
  exact h7 i hi
theorem i_F_of {m m' : z_M} (f : ∀ a j, (127 ≤ a ∧ a ≤ 129) ∨ a = 149 ∨ a = 150 ∨ (a = 131 ∧ j = 25) → m' a j = m a j) (h : i_F m) : i_F m' := by
  obtain ⟨h1, h2, h3, h4⟩ := h
  have e := f 127 0 (by omega)
  refine ⟨by rw [e]; exact h1, by rw [e]; exact h2, by rw [e, f 131 25 (by omega)]; exact h3, fun i hi => ?_⟩
  rw [e] at hi
  rw [f 149 i (by omega), f 150 i (by omega), f 128 i (by omega), f 129 i (by omega)]
  exact h4 i hi
/-- cells that hold nothing between calls -/
def z_scr (a j : Nat) : Prop := (29 ≤ a ∧ a ≤ 108) ∨ a = 130 ∨ a = 123 ∨ a = 124 ∨ (a = 121 ∧ j = 2) ∨ (138 ≤ a ∧ a ≤ 148) ∨ a = 153 ∨ a = 155 ∨ a = 156 ∨ a = 163 ∨ (a = 131 ∧ (j = 15 ∨ j = 16 ∨ j = 18 ∨ j = 34 ∨ j = 35 ∨ j = 46 ∨ j = 48))
theorem i_vp {L : Nat} {g : z_g} (h : i_g L g) : g.2.1 = 126 ∨ g.2.1 = 165 ∨ g.2.1 = 166 := by
  obtain ⟨-, h | h | h⟩ := h
  · exact Or.inl h.1
  · exact Or.inr (Or.inl h.1)
  · exact Or.inr (Or.inr h.1)
theorem I_scr {L : Nat} {m m' : z_M} {g : z_g} (h : I L m g) (f : ∀ a j, ¬ z_scr a j → m' a j = m a j) (hT : i_T m') (hZ : i_Z m') : I L m' g := by
  obtain ⟨h1, h2, h3, ⟨h4, -, h5⟩, -, h6, h7, h8, h9, h10, h11, h12⟩ := h
  have hvp := i_vp h1
  exact ⟨h1, i_Sc_of (fun j => f 1001 j (by unfold z_scr; omega)) h2, i_D_of (fun a j _ _ => f a j (by unfold z_scr; omega)) h3, ⟨i_V_of (fun a j _ _ => f a j (by unfold z_scr; omega)) h4, hT, i_P_of (fun j => f 1002 j (by unfold z_scr; omega)) h5⟩, hZ, i_R_of (fun a j _ => f a j (by unfold z_scr; omega)) h6, i_K_of (fun a j _ => f a j (by unfold z_scr; omega)) h7, i_St_of (fun a j _ => f a j (by unfold z_scr; omega)) h8, i_L_of (fun a j _ => f a j (by unfold z_scr; omega)) h9, i_X_of (fun a j _ => f a j (by unfold z_scr; omega)) h10, i_W_of (fun a j _ => f a j (by unfold z_scr; omega)) h11, i_F_of (fun a j _ => f a j (by unfold z_scr; omega)) h12⟩
/-- the model's sum s is the class's -/
theorem I_nS {m m' : z_M} {s : Int} (hV : i_V m) (hR : i_R m) (h0 : 0 ≤ s) (h1 : s < m 1 3) (f : n_fr m m') : n_S m' s (s_p m) (s_S m s) (m 4 s.toNat) (m 5 s.toNat) (fun e => m (7 + s.toNat) e) := by
  have hp := s_p_pr hV
  obtain ⟨a1, a2, a3, a4⟩ := s_S_V hV h0 h1
  obtain ⟨v0, v1, v2, -, -, v6, -⟩ := hV
  obtain ⟨k1, k2, k3, k4, k5, k6, k7⟩ := v6 s.toNat (by omega)
  obtain ⟨⟨r1, r2, r3, -⟩, r5, r6, -, r8⟩ := hR
  have hs : s.toNat < 6 := by omega
  obtain ⟨q1, q2, q3, q4⟩ := r5 s.toNat hs
  refine n_S_fr ⟨⟨hp, by omega, by omega, ?_⟩, by omega, by omega, ?_, a1, q3, by omega, q4, by omega, fun e he => ?_⟩ f
  · rw [r1, r8 _ (by omega)]; rfl
  · rw [q2, (r5 (m 3 s.toNat).toNat (by omega)).1]; exact a2
  · have := k7 e he
    rw [show (13 * s + (e : Int)).toNat = 13 * s.toNat + e by omega, r6 s.toNat e hs (by omega)]
    show m (7 + s.toNat) e = m (7 + s.toNat) e ∧ 0 ≤ m (7 + s.toNat) e ∧ m (7 + s.toNat) e ≤ 127
    exact ⟨rfl, by omega, by omega⟩
theorem I_nP {m m' : z_M} (hV : i_V m) (hR : i_R m) (f : n_fr m m') : n_P m' (s_p m) := by
  have hp := s_p_pr hV
  obtain ⟨v0, -⟩ := hV
  obtain ⟨⟨r1, -⟩, -, -, -, r8⟩ := hR
  refine n_P_fr ⟨hp, by omega, by omega, ?_⟩ f
  rw [r1, r8 _ (by omega)]; rfl
/-- a pair's ends -/
theorem p_m {L : Nat} {v v' : Int} {m2 : z_M} {g2 : z_g} (hv : v = v') (h : I L m2 g2) : ∃ v'' m3 g3, (.inl v' : q_V) = .inl v'' ∧ z_st m2 g2 = z_st m3 g3 ∧ q_w v = q_w v'' ∧ I L m3 g3 := ⟨v', m2, g2, rfl, rfl, by rw [hv], h⟩
theorem p_ml {L : Nat} {v v' : Int} {m2 : z_M} {g2 : z_g} (hv : v = v') (h : I L m2 g2) : ∃ v'' m3 g3, (.inr (.inl v') : q_V) = .inr (.inl v'') ∧ z_st m2 g2 = z_st m3 g3 ∧ q_wl v = q_wl v'' ∧ I L m3 g3 := ⟨v', m2, g2, rfl, rfl, by rw [hv], h⟩
