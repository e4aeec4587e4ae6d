/-! PAIRS: read -/
theorem I_X0 {L : Nat} {m F : z_M} {g : z_g} (h : I L m g) (f : ∀ a j, ¬ z_scr a j → ¬ (a = 121 ∧ j = 1) → ¬ (a = 131 ∧ j = 33) → F a j = m a j) (fT : ∀ a j, 29 ≤ a → a ≤ 62 → F a j = m a j) (fZ : F 72 12 = m 72 12) (e1 : F 121 1 = 0) (e2 : F 131 33 = 0) : I L F g := by
  obtain ⟨h1, h2, h3, ⟨h4, h4', h5⟩, h0, h6, h7, h8, h9, h10, h11, h12⟩ := h
  have hvp := i_vp h1
  unfold z_scr at f
  exact ⟨h1, i_Sc_of (fun j => f 1001 j (by omega) (by omega) (by omega)) h2, i_D_of (fun a j _ _ => f a j (by omega) (by omega) (by omega)) h3, ⟨i_V_of (fun a j _ _ => f a j (by omega) (by omega) (by omega)) h4, i_T_of fT h4', i_P_of (fun j => f 1002 j (by omega) (by omega) (by omega)) h5⟩, fZ.trans h0, i_R_of (fun a j _ => f a j (by omega) (by omega) (by omega)) h6, i_K_of (fun a j _ => f a j (by omega) (by omega) (by omega)) h7, i_St_of (fun a j _ => f a j (by omega) (by omega) (by omega)) h8, i_L_of (fun a j _ => f a j (by omega) (by omega) (by omega)) h9, ⟨by omega, by omega, by omega, fun i hi => absurd hi (by omega)⟩, i_W_of (fun a j _ => f a j (by omega) (by omega) (by omega)) h11, i_F_of (fun a j _ => f a j (by omega) (by omega) (by omega)) h12⟩
theorem I_S0 {L : Nat} {m : z_M} {g : z_g} (h : I L m g) : I L (q_upd (q_upd m 109 0 0) 131 41 0) g := by
  have e : ∀ a j, ¬ (a = 109 ∧ j = 0) → ¬ (a = 131 ∧ j = 41) → (q_upd (q_upd m 109 0 0) 131 41 0) a j = m a j := fun a j q1 q2 => by rw [z_un q2, z_un q1]
  have e1 : (q_upd (q_upd m 109 0 0) 131 41 0) 109 0 = 0 := by rw [z_un (by omega), z_ue rfl rfl]
  have e2 : (q_upd (q_upd m 109 0 0) 131 41 0) 131 41 = 0 := z_ue rfl rfl
  generalize q_upd (q_upd m 109 0 0) 131 41 0 = m' at e e1 e2
  have hh := h
  obtain ⟨h1, h2, h3, ⟨h4, h4', h5⟩, h0, h6, h7, h8, h9, h10, h11, h12⟩ := h
  exact I_gen hh (fun a j q => e a j (by unfold z_chg z_sts at q; omega) (by unfold z_chg z_sts at q; omega)) (i_V_of (fun a j _ _ => e a j (by omega) (by omega)) h4) (i_T_of (fun a j _ _ => e a j (by omega) (by omega)) h4') ((e 72 12 (by omega) (by omega)).trans h0) (i_R_of (fun a j _ => e a j (by omega) (by omega)) h6) (i_St_0 e1 e2)
/-- the ends of one clause, by the sign of what came back -/
theorem c_sign {m : z_M} {g : z_g} {Q : q_V → q_S → Prop} {v a1 a2 a3 : Int} (k1 : q_w v < 0 → z_T 142 18 [.inr (.inr 0), .inl a1, .inl a2, .inl (a3 + 1)] [] (z_st m g) Q) (k2 : ¬ q_w v < 0 → z_T 142 18 [.inr (.inr 0), .inl a1, .inl (a2 + 1), .inl (a3 + 1)] [] (z_st m g) Q) : z_T 142 33 [.inr (.inr 0), .inl a1, .inl a2, .inl a3] [.inl v] (z_st m g) Q := by
  refine z_wp_T (cd := q_c142) (cs := [18]) rfl 20 33 _ _ _ _ ?_
  apply And.intro
  · intro h
    exact k1 (of_decide_eq_true h)
  · intro h
    exact k2 (of_decide_eq_false h)
theorem n_signOf {m : z_M} {g : z_g} {Q : q_V → q_S → Prop} {v a1 a2 a3 c : Int} (k1 : q_w v < 0 → z_T 269 17 [.inr (.inr 131), .inl a1, .inl (c + 0), .inl (a3 + 1)] [] (z_st m g) Q) (k2 : ¬ q_w v < 0 → z_T 269 17 [.inr (.inr 131), .inl a1, .inl (c + 1), .inl (a3 + 1)] [] (z_st m g) Q) : z_T 269 25 [.inr (.inr 131), .inl a1, .inl a2, .inl a3] [.inl v, .inl c] (z_st m g) Q := by
  refine z_wp_T (cd := q_c269) (cs := [17]) rfl 20 25 _ _ _ _ ?_
  apply And.intro
  · intro h
    exact k1 (of_decide_eq_true h)
  · intro h
    exact k2 (of_decide_eq_false h)
theorem j_Wcm {a j : Nat} (h : j_Wc a j = true) : ¬ j_Wm a j = true ∧ ¬ j_Em a j = true := by
  obtain ⟨h1, h2⟩ := j_Wc_rng h
  have h3 := j_Ec_rng h1
  refine ⟨fun hh => ?_, fun hh => ?_⟩
  · have := j_Em_rng (j_Wm_rng hh).1
    omega
  · have := j_Em_rng hh
    omega
theorem j_Wmc {a j : Nat} (h : j_Wm a j = true) : ¬ j_Wc a j = true ∧ ¬ j_Ec a j = true := by
  obtain ⟨h1, h2⟩ := j_Wm_rng h
  have h3 := j_Em_rng h1
  refine ⟨fun hh => ?_, fun hh => ?_⟩
  · have := j_Ec_rng (j_Wc_rng hh).1
    omega
  · have := j_Ec_rng hh
    omega
theorem j_Ec_W {a j : Nat} (h : j_Ec a j = true) : j_Wc a j = true ∨ 1000 ≤ a := by
  by_cases ha : a < 1000
  · left; unfold j_Wc; rw [h]; simpa using ha
  · right; omega
theorem j_Em_W {a j : Nat} (h : j_Em a j = true) : j_Wm a j = true ∨ 1000 ≤ a := by
  by_cases ha : a < 1000
  · left; unfold j_Wm; rw [h]; simpa using ha
  · right; omega
theorem j_W1000 {a j : Nat} (h : 1000 ≤ a) : ¬ j_Wc a j = true ∧ ¬ j_Wm a j = true := ⟨fun hh => by have := (j_Wc_rng hh).2; omega, fun hh => by have := (j_Wm_rng hh).2; omega⟩
/-- the model does its clauses over from the first -/
def pa_rep (g : z_g) (n : Int) (tx : Nat → Int) (l : List (Nat × Nat)) (m0 mi : z_M) (i : Nat) (cnt : Int) : Prop := ∀ (D : z_M) (sv : Int) (Q' : q_V → q_S → Prop), (∀ a j, j_Em a j = true → D a j = m0 a j) → pa_mr D n tx l → D 131 35 = (l.length : Int) → z_T 269 17 [.inr (.inr 131), .inl sv, .inl cnt, .inl (i : Int)] [] (z_st (j_glue j_Wm mi D) g) Q' → z_T 269 17 [.inr (.inr 131), .inl sv, .inl 0, .inl 0] [] (z_st D g) Q'
theorem c_clauses {m : z_M} {g : z_g} {Q : q_V → q_S → Prop} {L : Nat} {n : Int} {tx : Nat → Int} {l : List (Nat × Nat)} {m0 : z_M} (hg : g.2.2.1.length ≤ 2) (hX : pa_X m0 n tx) (hlen : m0 121 2 = (l.length : Int)) (l10 : l.length ≤ 10) (hrow : pa_rows m0 l) (hmem : ∀ (i a b : Nat), l[i]? = some (a, b) → pa_good n tx a ∧ b = pa_fin n tx a ∧ a ≤ 80) (kk : ∀ (mN : z_M) (cnt : Int), I L mN g → (∀ a j, ¬ j_Wc a j = true → ¬ j_Wm a j = true → mN a j = m0 a j) → pa_rep g n tx l m0 mN l.length cnt → Q (.inl cnt) (z_st (q_upd (q_upd (j_glue j_Wc mN m0) 121 1 0) 109 0 0) g)) (a1 : Int) : ∀ (d i : Nat) (ii cnt : Int) (C mi : z_M), i + d = l.length → ii = (i : Int) → I L mi g → C = j_glue j_Wc mi m0 → (∀ a j, ¬ j_Wc a j = true → ¬ j_Wm a j = true → mi a j = m0 a j) → pa_rep g n tx l m0 mi i cnt → z_T 142 18 [.inr (.inr 0), .inl a1, .inl cnt, .inl ii] [] (z_st C g) Q := by
  have gl : ∀ (mi : z_M) (a j : Nat), ¬ j_Wc a j = true → (j_glue j_Wc mi m0) a j = m0 a j := fun mi a j h => if_neg h
  have n121 : ∀ j, ¬ j_Wc 121 j = true := fun j h => by
    have := (j_Ec_rng (j_Wc_rng h).1).1
    omega
  have n123 : ∀ a j, 122 ≤ a → a ≤ 124 → ¬ j_Wc a j = true := fun a j h1 h2 h => by
    have := (j_Ec_rng (j_Wc_rng h).1).1
    omega
  intro d
  induction d with
  | zero =>
    intro i ii cnt C mi hi hii hI hC hf hrep
    have hil : i = l.length := by omega
    subst hil
    subst hii
    subst hC
    refine y_142_18 ?_
    rw [gl mi 121 2 (n121 2), hlen]
    exact ⟨(by unfold z_ok2; omega), fun _ => c_clear (y_142_44 (kk mi cnt hI hf hrep)), (fun h => absurd h (by omega))⟩
  | succ d ih =>
    intro i ii cnt C mi hi hii hI hC hf hrep
    subst hii
    have hil : i < l.length := by omega
    obtain ⟨⟨a, b⟩, hab⟩ : ∃ x, l[i]? = some x := ⟨l[i], List.getElem?_eq_getElem hil⟩
    obtain ⟨hgd, hb, ha80⟩ := hmem i a b hab
    obtain ⟨r1, r2⟩ := hrow i a b hab
    have hXC : pa_X C n tx := by
      rw [hC]
      exact pa_X_of hX (gl mi 121 1 (n121 1)) (fun j => gl mi 122 j (n123 122 j (by omega) (by omega)))
    have e2 : C 121 2 = (l.length : Int) := by rw [hC, gl mi 121 2 (n121 2)]; exact hlen
    have e3 : C 123 i = (a : Int) := by rw [hC, gl mi 123 i (n123 123 i (by omega) (by omega))]; exact r1
    have e4 : C 124 i = (b : Int) := by rw [hC, gl mi 124 i (n123 124 i (by omega) (by omega))]; exact r2
    obtain ⟨v, c1, v', m2, hw, hI2, f1, f2, repc, repm⟩ := j_pair hg pa_jc_mem pa_jm_mem (pa_as_all (by decide)) (pa_as_all (by decide)) (p_act (b := b) hI hgd)
    have hf' : ∀ a j, ¬ j_Wc a j = true → ¬ j_Wm a j = true → m2 a j = m0 a j := fun a j q1 q2 => by rw [f2 a j q2, f1 a j q1, hf a j q1 q2]
    have hC2 : j_glue j_Wc c1 C = j_glue j_Wc m2 m0 := by
      funext x j
      unfold j_glue
      by_cases hh : j_Wc x j = true
      · rw [if_pos hh, if_pos hh, f2 x j (j_Wcm hh).1]
      · rw [if_neg hh, if_neg hh, hC, gl mi x j hh]
    have hagC : ∀ x j, j_Ec x j = true → C x j = mi x j := fun x j h => by
      rcases j_Ec_W h with hh | hh
      · rw [hC]; exact if_pos hh
      · rw [hC, gl mi x j (j_W1000 hh).1, hf x j (j_W1000 hh).1 (j_W1000 hh).2]
    -- the model, one clause more
    have hrep2 : ∀ cnt' : Int, (q_w v' < 0 → cnt' = cnt + 0) → (¬ q_w v' < 0 → cnt' = cnt + 1) → pa_rep g n tx l m0 m2 (i + 1) cnt' := by
      intro cnt' h1 h2 D sv Q' dE dR dL hk
      refine hrep D sv Q' dE dR dL ?_
      have wm35 : ¬ j_Wm 131 35 = true := by decide
      have e35 : (j_glue j_Wm mi D) 131 35 = (l.length : Int) := by
        show (if j_Wm 131 35 = true then _ else _) = _
        rw [if_neg wm35]; exact dL
      have wm155 : ∀ a j, 155 ≤ a → a ≤ 156 → ¬ j_Wm a j = true := fun a j h1 h2 h => by
        have := (j_Em_rng (j_Wm_rng h).1).1
        omega
      have hmr : pa_mr (j_glue j_Wm mi D) n tx l := fun i a b hi => by
        obtain ⟨q1, q2⟩ := dR i a b hi
        refine ⟨?_, fun k hk => ?_⟩
        · show (if j_Wm 155 i = true then _ else _) = _
          rw [if_neg (wm155 155 i (by omega) (by omega))]; exact q1
        · show (if j_Wm 156 (4 * i + k) = true then _ else _) = _
          rw [if_neg (wm155 156 _ (by omega) (by omega))]; exact q2 k hk
      have hag : ∀ x j, j_Em x j = true → (j_glue j_Wm mi D) x j = c1 x j := fun x j h => by
        show (if j_Wm x j = true then _ else _) = _
        rcases j_Em_W h with hh | hh
        · rw [if_pos hh, f1 x j (j_Wmc hh).1]
        · rw [if_neg (j_W1000 hh).2, dE x j h, f1 x j (j_W1000 hh).1, hf x j (j_W1000 hh).1 (j_W1000 hh).2]
      have hgl : j_glue j_Wm m2 (j_glue j_Wm mi D) = j_glue j_Wm m2 D := by
        funext x j
        unfold j_glue
        by_cases hh : j_Wm x j = true
        · rw [if_pos hh, if_pos hh]
        · rw [if_neg hh, if_neg hh, if_neg hh]
      refine y_269_17 ?_
      rw [e35]
      refine ⟨(by unfold z_ok2; omega), (fun h => absurd h (by omega)), fun _ => n_does hgd hab hmr (by omega) (repm _ _ hag ⟨v', _, rfl, rfl, ?_⟩)⟩
      rw [hgl]
      have e1 : (((i + 1 : Nat)) : Int) = (i : Int) + 1 := by omega
      rw [e1] at hk
      refine n_signOf (fun hs => ?_) (fun hs => ?_)
      · rw [h1 hs] at hk; exact hk
      · rw [h2 hs] at hk; exact hk
    refine y_142_18 ?_
    rw [e2]
    refine ⟨(by unfold z_ok2; omega), (fun h => absurd h (by omega)), fun _ => y_150 ⟨(by unfold z_ok; omega), (fun h => absurd h (by omega)), fun _ => ?_⟩⟩
    rw [e2, show ((i : Int)).toNat = i by omega, e3]
    refine ⟨(by unfold z_ok2; omega), fun _ => ⟨⟨by omega, by omega⟩, y_142_28 (y_151 ⟨(by unfold z_ok; omega), (fun h => absurd h (by omega)), fun _ => ?_⟩)⟩, (fun h => absurd h (by omega))⟩
    rw [e2, show ((i : Int)).toNat = i by omega, e4]
    refine ⟨(by unfold z_ok2; omega), fun _ => ⟨⟨by omega, by omega⟩, y_142_32 (c_doClause hXC hgd hb ha80 (repc C _ hagC ⟨v, _, rfl, rfl, ?_⟩))⟩, (fun h => absurd h (by omega))⟩
    rw [hC2]
    refine c_sign (fun hs => ?_) (fun hs => ?_)
    · exact ih (i + 1) _ cnt _ m2 (by omega) (by omega) hI2 rfl hf' (hrep2 cnt (fun _ => by omega) (fun hh => absurd (by rw [← hw]; exact hs) hh))
    · exact ih (i + 1) _ (cnt + 1) _ m2 (by omega) (by omega) hI2 rfl hf' (hrep2 (cnt + 1) (fun hh => absurd (by rw [hw]; exact hh) hs) (fun _ => rfl))
theorem pa_parse_ub {n : Int} {tx : Nat → Int} (hn : n ≤ 80) : ∀ (f s : Nat), (s : Int) ≤ n → (pa_parse n tx f s).2 ≤ 100
  | 0, s, h => by show (s : Int) ≤ 100; omega
  | f + 1, s, h => by
    have h1 := pa_stop_le (n := n) (tx := tx) (s := s)
    have h2 := pa_fin_le (n := n) (tx := tx) (s := s)
    have h3 := pa_len_le (c := pa_T n tx s)
    unfold pa_parse
    split
    · show (pa_stop n tx s : Int) ≤ 100; omega
    · split
      · show (-1 : Int) ≤ 100; decide
      · split
        · show (pa_fin n tx s : Int) ≤ 100; omega
        · rename_i hh
          have hlt := pa_T_lt (m := fun _ _ => 0) (n := n) (tx := tx) (i := pa_fin n tx s) (by omega)
          exact pa_parse_ub hn f _ (by omega)
theorem p_read {L : Nat} {m : z_M} {g : z_g} (hI : I L m g) : z_pI (I L) 142 269 [] m g := by
  have hg2 : g.2.2.1.length ≤ 2 := by
    obtain ⟨-, h | h | h⟩ := hI.1
    · rw [h.2.1]; decide
    · rw [h.2.1]; decide
    · rw [h.2.1]; decide
  have hX := hI.2.2.2.2.2.2.2.2.2.1
  obtain ⟨x0, x1, x2, x3⟩ := hX
  have hpX : pa_X m (m 121 1) (fun i => m 122 i) := ⟨rfl, x0, x1, fun i hi => ⟨rfl, (x3 i hi).2⟩⟩
  have hub := pa_parse_ub (tx := fun i => m 122 i) x1 10 0 x0
  have hrg := pa_parse_rng (n := m 121 1) (tx := fun i => m 122 i) 10 0
  have hmem := pa_parse_mem (tx := fun i => m 122 i) x1 10 0
  refine y_142 (c_fault hpX fun m0 f0 hok => ?_)
  have hIy : ∀ F : z_M, (∀ a j, ¬ a = 123 → ¬ a = 124 → ¬ (a = 121 ∧ j = 2) → ¬ (a = 131 ∧ (j = 33 ∨ j = 34 ∨ j = 35)) → ¬ a = 155 → ¬ a = 156 → ¬ (a = 121 ∧ j = 1) → F a j = m a j) → F 121 1 = 0 → F 131 33 = 0 → I L F g := fun F f e1 e2 => I_X0 hI (fun a j q1 q2 q3 => f a j (fun h => q1 (by unfold z_scr; omega)) (fun h => q1 (by unfold z_scr; omega)) (fun h => q1 (by unfold z_scr; omega)) (fun h => by unfold z_scr at q1; omega) (fun h => q1 (by unfold z_scr; omega)) (fun h => q1 (by unfold z_scr; omega)) q2) (fun a j _ _ => f a j (by omega) (by omega) (by omega) (by omega) (by omega) (by omega) (by omega)) (f 72 12 (by omega) (by omega) (by omega) (by omega) (by omega) (by omega) (by omega)) e1 e2
  generalize hPR : pa_parse (m 121 1) (fun i => m 122 i) 10 0 = PR at hok hub hrg hmem
  refine y_142_3 ⟨by unfold z_ok; omega, fun hneg => ?_, fun hpos => ?_⟩
  · -- no fault
    have hv : PR.2 = -1 := by omega
    obtain ⟨k1, k2, k3⟩ := hok hv
    have hI0 : I L m0 g := I_scr hI (fun a j h => f0 a j (fun h2 => h (by unfold z_scr; omega)) (fun h2 => h (by unfold z_scr; omega)) (fun h2 => h (by unfold z_scr; omega))) (i_T_of (fun a j _ _ => f0 a j (by omega) (by omega) (by omega)) hI.2.2.2.1.2.1) (by show _ = _; rw [f0 72 12 (by omega) (by omega) (by omega)]; exact hI.2.2.2.2.1)
    have hX0 : pa_X m0 (m 121 1) (fun i => m 122 i) := pa_X_of hpX (f0 121 1 (by omega) (by omega) (by omega)) (fun j => f0 122 j (by omega) (by omega) (by omega))
    refine c_clauses (m := m) (L := L) (l := PR.1) (m0 := m0) hg2 hX0 k1 k2 k3 (fun i a b hh => hmem i a b x0 hh) (fun mN cnt hIN fN hrep => ?_) PR.2 PR.1.length 0 0 0 m0 m0 (Nat.zero_add _) rfl hI0 ?_ (fun _ _ _ _ => rfl) ?_
    · -- the model
      have gl : ∀ (a j : Nat), ¬ j_Wc a j = true → (j_glue j_Wc mN m0) a j = m0 a j := fun a j h => if_neg h
      have Fc0 : ∀ a j, ¬ (a = 121 ∧ j = 1) → ¬ (a = 109 ∧ j = 0) → (q_upd (q_upd (j_glue j_Wc mN m0) 121 1 0) 109 0 0) a j = (j_glue j_Wc mN m0) a j := fun a j q1 q2 => by rw [z_un q2, z_un q1]
      have Fc1 : (q_upd (q_upd (j_glue j_Wc mN m0) 121 1 0) 109 0 0) 121 1 = 0 := by rw [z_un (by omega), z_ue rfl rfl]
      have Fc2 : (q_upd (q_upd (j_glue j_Wc mN m0) 121 1 0) 109 0 0) 109 0 = 0 := z_ue rfl rfl
      generalize q_upd (q_upd (j_glue j_Wc mN m0) 121 1 0) 109 0 0 = Fc at Fc0 Fc1 Fc2
      have nW : ∀ a j, ¬ (a ≤ 12 ∨ (109 ≤ a ∧ a ≤ 113)) → ¬ j_Wc a j = true := fun a j h hh => by
        have h1 := j_Wc_rng hh
        have h2 := j_Ec_rng h1.1
        omega
      have Fc3 : ∀ a j, ¬ (a ≤ 12 ∨ (109 ≤ a ∧ a ≤ 113)) → ¬ (a = 121 ∧ j = 1) → Fc a j = m0 a j := fun a j q1 q2 => by rw [Fc0 a j q2 (by omega), gl a j (nW a j q1)]
      have hY : pa_Y Fc (m 121 1) (fun i => m 122 i) := ⟨by rw [Fc3 131 33 (by omega) (by omega), f0 131 33 (by omega) (by omega) (by omega)]; exact x2, x0, x1, fun i hi => ⟨by rw [Fc3 154 i (by omega) (by omega), f0 154 i (by omega) (by omega) (by omega)]; exact (x3 i hi).1, (x3 i hi).2⟩⟩
      refine ⟨cnt, Fc, g, rfl, rfl, fun j => by rw [Fc3 1001 j (by omega) (by omega)]; exact f0 1001 j (by omega) (by omega) (by omega), rfl, y_269 (n_readsAll hY fun m' f' hok' _ => ?_)⟩
      rw [hPR] at hok' ⊢
      obtain ⟨l1, l2⟩ := hok' hv
      rw [if_pos hv]
      refine y_269_2 ⟨(by unfold z_ok; omega), fun _ => ?_, (fun h => absurd h (by omega))⟩
      have dE : ∀ a j, j_Em a j = true → (q_upd m' 131 33 0) a j = m0 a j := fun a j h => by
        have h1 := j_Em_rng h
        rw [z_un (by omega), f' a j (by omega) (by omega) (by omega), Fc3 a j (by omega) (by omega)]
      refine hrep (q_upd m' 131 33 0) 1 _ dE (fun i a b hi => ⟨by rw [z_un (by omega)]; exact (l2 i a b hi).1, fun k hk => by rw [z_un (by omega)]; exact (l2 i a b hi).2 k hk⟩) (by rw [z_un (by omega)]; exact l1) (y_269_17 ?_)
      have gm : ∀ (a j : Nat), ¬ j_Wm a j = true → (j_glue j_Wm mN (q_upd m' 131 33 0)) a j = (q_upd m' 131 33 0) a j := fun a j h => if_neg h
      have gm1 : ∀ (a j : Nat), j_Wm a j = true → (j_glue j_Wm mN (q_upd m' 131 33 0)) a j = mN a j := fun a j h => if_pos h
      have e35 : (j_glue j_Wm mN (q_upd m' 131 33 0)) 131 35 = (PR.1.length : Int) := by rw [gm 131 35 (by decide), z_un (by omega)]; exact l1
      have e33 : (j_glue j_Wm mN (q_upd m' 131 33 0)) 131 33 = 0 := by rw [gm 131 33 (by decide), z_ue rfl rfl]
      rw [e35]
      refine ⟨by unfold z_ok2; omega, fun _ => p_m rfl ?_, fun h => absurd h (by omega)⟩
      have nWm : ∀ a j, ¬ (a = 131 ∨ (133 ≤ a ∧ a ≤ 137) ∨ (158 ≤ a ∧ a ≤ 160)) → ¬ j_Wm a j = true := fun a j h hh => by
        have h1 := j_Wm_rng hh
        have h2 := j_Em_rng h1.1
        omega
      -- what it comes to
      have G : ∀ a j, ¬ a = 155 → ¬ a = 156 → ¬ (a = 131 ∧ (j = 33 ∨ j = 34 ∨ j = 35)) → ¬ (a = 121 ∧ j = 1) → ¬ (a = 109 ∧ j = 0) → (j_glue j_Wm mN (q_upd m' 131 33 0)) a j = mN a j := by
        intro a j q1 q2 q3 q4 q5
        by_cases hw : j_Wm a j = true
        · exact gm1 a j hw
        · rw [gm a j hw, z_un (by omega), f' a j (by omega) q1 q2, Fc0 a j q4 q5]
          by_cases hc : j_Wc a j = true
          · exact if_pos hc
          · rw [gl a j hc, fN a j hc hw]
      have G1 : (j_glue j_Wm mN (q_upd m' 131 33 0)) 121 1 = 0 := by rw [gm 121 1 (nWm 121 1 (by omega)), z_un (by omega), f' 121 1 (by omega) (by omega) (by omega)]; exact Fc1
      have G2 : (j_glue j_Wm mN (q_upd m' 131 33 0)) 109 0 = 0 := by rw [gm 109 0 (nWm 109 0 (by omega)), z_un (by omega), f' 109 0 (by omega) (by omega) (by omega)]; exact Fc2
      generalize j_glue j_Wm mN (q_upd m' 131 33 0) = mF at G G1 G2 e33
      refine I_X0 (I_S0 hIN) (fun a j h1 h2 h3 => ?_) (fun a j _ _ => ?_) ?_ (by rw [z_un (by omega)]; exact G1) (by rw [z_un (by omega)]; exact e33)
      · unfold z_scr at h1
        by_cases c1 : a = 131 ∧ j = 41
        · rw [z_ue c1.1 c1.2, z_ue c1.1 c1.2]
        · rw [z_un c1, z_un c1]
          by_cases c2 : a = 109 ∧ j = 0
          · rw [z_ue c2.1 c2.2, c2.1, c2.2]; exact G2
          · rw [z_un c2]; exact G a j (by omega) (by omega) (by omega) h2 c2
      · rw [z_un (by omega), z_un (by omega), z_un (by omega)]; exact G a j (by omega) (by omega) (by omega) (by omega) (by omega)
      · rw [z_un (by omega), z_un (by omega), z_un (by omega)]; exact G 72 12 (by omega) (by omega) (by omega) (by omega) (by omega)
    · funext a j
      unfold j_glue
      rw [ite_self]
    · intro D sv Q' dE dR dL hk
      have e : j_glue j_Wm m0 D = D := by
        funext a j
        unfold j_glue
        by_cases hh : j_Wm a j = true
        · rw [if_pos hh]; exact (dE a j (j_Wm_rng hh).1).symm
        · rw [if_neg hh]
      rw [e] at hk
      exact hk
  · -- a fault
    have hv : ¬ PR.2 = -1 := by omega
    have e0 : ∀ a j, ¬ (a = 121 ∧ j = 1) → (q_upd m0 121 1 0) a j = m0 a j := fun a j h => z_un h
    have hY : pa_Y (q_upd m0 121 1 0) (m 121 1) (fun i => m 122 i) := ⟨by rw [e0 131 33 (by omega), f0 131 33 (by omega) (by omega) (by omega)]; exact x2, x0, x1, fun i hi => ⟨by rw [e0 154 i (by omega), f0 154 i (by omega) (by omega) (by omega)]; exact (x3 i hi).1, (x3 i hi).2⟩⟩
    refine ⟨-100 - PR.2, q_upd m0 121 1 0, g, rfl, rfl, fun j => by rw [e0 1001 j (by omega)]; exact f0 1001 j (by omega) (by omega) (by omega), rfl, y_269 (n_readsAll hY fun m' f' _ hbad' => ?_)⟩
    rw [hPR] at hbad' ⊢
    rw [if_neg hv]
    refine y_269_2 ⟨(by unfold z_ok; omega), (fun h => absurd h (by omega)), fun _ => p_m (by rw [hbad' hv]) (hIy _ (fun a j q1 q2 q3 q4 q5 q6 q7 => by rw [z_un (by omega), f' a j (by omega) q5 q6, e0 a j q7]; exact f0 a j q1 q2 q3) ?_ (z_ue rfl rfl))⟩
    rw [z_un (by omega), f' 121 1 (by omega) (by omega) (by omega), z_ue rfl rfl]
