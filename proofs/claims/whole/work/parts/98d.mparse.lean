/-! READING A TEXT: the model's side -/
def pa_Y (m : z_M) (n : Int) (tx : Nat → Int) : Prop := m 131 33 = n ∧ 0 ≤ n ∧ n ≤ 80 ∧ ∀ i : Nat, (i : Int) < n → m 154 i = tx i ∧ 0 ≤ tx i ∧ tx i ≤ 127
theorem pa_Y_of {m m' : z_M} {n : Int} {tx : Nat → Int} (h : pa_Y m n tx) (f1 : m' 131 33 = m 131 33) (f2 : ∀ j, m' 154 j = m 154 j) : pa_Y m' n tx := ⟨by rw [f1]; exact h.1, h.2.1, h.2.2.1, fun i hi => by rw [f2]; exact h.2.2.2 i hi⟩
theorem pa_T_rng' {m : z_M} {n : Int} {tx : Nat → Int} {i : Nat} (h : pa_Y m n tx) : -1 ≤ pa_T n tx i ∧ pa_T n tx i ≤ 127 := by
  unfold pa_T
  split
  · have := (h.2.2.2 i (by assumption)).2; omega
  · omega
theorem n_next {m : z_M} {g : z_g} {Q : q_V → q_S → Prop} {n : Int} {tx : Nat → Int} {k : Nat} (h : pa_Y m n tx) (ha : m 131 34 = (k : Int)) (k200 : k < 200) (kk : Q (.inl (pa_T n tx k)) (z_st m g)) : z_C 272 [.inr (.inr 131)] (z_st m g) Q := by
  obtain ⟨h1, h2, h3, h4⟩ := h
  unfold pa_T at kk
  refine y_272 ?_
  rw [h1, ha]
  refine ⟨(by unfold z_ok2; omega), fun hge => ?_, fun hlt => ⟨⟨by omega, by omega⟩, ?_⟩⟩
  · rw [if_neg (by omega)] at kk
    exact kk
  · rw [if_pos hlt] at kk
    rw [show ((k : Int)).toNat = k by omega, (h4 k hlt).1]
    exact kk
theorem n_digit {m : z_M} {g : z_g} {Q : q_V → q_S → Prop} {n : Int} {tx : Nat → Int} {k : Nat} (h : pa_Y m n tx) (ha : m 131 34 = (k : Int)) (k200 : k < 200) (k1 : pa_dg (pa_T n tx k) = true → Q (.inl (pa_sg (pa_T n tx k))) (z_st (q_upd m 131 34 ((k + 1 : Nat) : Int)) g)) (k0 : ¬ pa_dg (pa_T n tx k) = true → Q (.inl (-1)) (z_st m g)) : z_C 275 [.inr (.inr 131)] (z_st m g) Q := by
  have hr := pa_T_rng' (i := k) h
  refine y_275 (n_next h ha k200 (y_275_2 (n_isIn (by unfold z_ok; omega) (by unfold z_ok; omega) (by unfold z_ok; omega) (fun h1 h2 => y_275_5 ⟨(by unfold z_ok; omega), fun _ => ?_, (fun h => absurd h (by omega))⟩) (fun hno => y_275_5 ⟨(by unfold z_ok; omega), (fun h => absurd h (by omega)), fun _ => k0 (fun hh => hno (of_decide_eq_true hh))⟩))))
  have hd : pa_dg (pa_T n tx k) = true := decide_eq_true ⟨h1, h2⟩
  have k1 := k1 hd
  have hlt : (k : Int) < n := pa_T_lt (m := m) (tx := tx) (by omega)
  rw [(pa_sg_dg hd).1] at k1
  have eT : pa_T n tx k = tx k := if_pos hlt
  rw [ha, show ((k : Int) + 1 - 1).toNat = k by omega, (h.2.2.2 k hlt).1, ← eT, show ((k : Int) + 1) = ((k + 1 : Nat) : Int) by omega]
  have := h.2.2.1
  exact ⟨⟨by omega, by omega⟩, k1⟩
theorem n_sign {m : z_M} {g : z_g} {Q : q_V → q_S → Prop} {n : Int} {tx : Nat → Int} {k : Nat} (h : pa_Y m n tx) (ha : m 131 34 = (k : Int)) (k200 : k < 200) (k1 : pa_si (pa_T n tx k) = true → Q (.inl (pa_sg (pa_T n tx k))) (z_st (q_upd m 131 34 ((k + 1 : Nat) : Int)) g)) (k0 : ¬ pa_si (pa_T n tx k) = true → Q (.inl (-1)) (z_st m g)) : z_C 274 [.inr (.inr 131)] (z_st m g) Q := by
  have hr := pa_T_rng' (i := k) h
  refine y_274 (n_next h ha k200 (y_274_2 (n_isIn (by unfold z_ok; omega) (by unfold z_ok; omega) (by unfold z_ok; omega) (fun h1 h2 => y_274_5 ⟨(by unfold z_ok; omega), fun _ => ?_, (fun h => absurd h (by omega))⟩) (fun hno => y_274_5 ⟨(by unfold z_ok; omega), (fun h => absurd h (by omega)), fun _ => n_digit h ha k200 (fun hd => y_274_8 (k1 (pa_dg_si hd))) (fun hd => y_274_8 (k0 (fun hh => ?_)))⟩))))
  · have e : pa_sg (pa_T n tx k) = pa_T n tx k - 97 + 10 := by
      unfold pa_sg
      rw [if_neg (by omega), if_pos ⟨h1, h2⟩]
    have k1 := k1 (decide_eq_true (by omega))
    have hlt : (k : Int) < n := pa_T_lt (m := m) (tx := tx) (by omega)
    rw [e] at k1
    have eT : pa_T n tx k = tx k := if_pos hlt
    rw [ha, show ((k : Int) + 1 - 1).toNat = k by omega, (h.2.2.2 k hlt).1, ← eT, show ((k : Int) + 1) = ((k + 1 : Nat) : Int) by omega]
    have := h.2.2.1
    exact ⟨⟨by omega, by omega⟩, k1⟩
  · have hh := of_decide_eq_true hh
    unfold pa_sg at hh
    by_cases c1 : 48 ≤ pa_T n tx k ∧ pa_T n tx k ≤ 57
    · exact hd (decide_eq_true c1)
    · rw [if_neg c1, if_neg hno] at hh
      exact absurd hh (by decide)
/-- what a clause's reading touches -/
def pa_fr (c : Nat) (m m' : z_M) : Prop := ∀ a j, ¬ (a = 131 ∧ j = 34) → ¬ (a = 156 ∧ 4 * c ≤ j) → m' a j = m a j
theorem pa_fr_Y {c : Nat} {m m' : z_M} {n : Int} {tx : Nat → Int} (h : pa_Y m n tx) (f : pa_fr c m m') : pa_Y m' n tx := pa_Y_of h (f 131 33 (by omega) (by omega)) (fun j => f 154 j (by omega) (by omega))
theorem n_tells {m : z_M} {g : z_g} {Q : q_V → q_S → Prop} {c k : Nat} {ki v : Int} (hc : m 131 35 = (c : Int)) (c10 : c < 10) (ek : ki = (k : Int)) (k4 : k < 4) (kk : Q q_dead (z_st (q_upd m 156 (4 * c + k) v) g)) : z_C 276 [.inr (.inr 131), .inl ki, .inl v] (z_st m g) Q := by
  refine y_276 ?_
  rw [hc, show (4 * (c : Int) + ki).toNat = 4 * c + k by omega]
  exact ⟨⟨by omega, by omega⟩, kk⟩
theorem n_readsDigits {m : z_M} {g : z_g} {Q : q_V → q_S → Prop} {n : Int} {tx : Nat → Int} {s c w : Nat} {wi : Int} (h : pa_Y m n tx) (ha : m 131 34 = (s : Int)) (hc : m 131 35 = (c : Int)) (c10 : c < 10) (s100 : s < 100) (ew : wi = (w : Int)) (w3 : w ≤ 3) (k1 : x_fst (fun i => !pa_dg (pa_T n tx i)) w s = s + w → ∀ m', pa_fr c m m' → m' 131 34 = ((s + w : Nat) : Int) → (∀ i, i < w → m' 156 (4 * c + i) = pa_sg (pa_T n tx (s + i))) → Q (.inl 1) (z_st m' g)) (k0 : x_fst (fun i => !pa_dg (pa_T n tx i)) w s < s + w → ∀ m', pa_fr c m m' → m' 131 34 = (x_fst (fun i => !pa_dg (pa_T n tx i)) w s : Int) → Q (.inl 0) (z_st m' g)) : z_C 278 [.inr (.inr 131), .inl wi] (z_st m g) Q := by
  subst ew
  have loop : ∀ (d k : Nat) (ki : Int) (m1 : z_M) (d3 : q_V), k + d = w → ki = (k : Int) → pa_fr c m m1 → m1 131 34 = ((s + k : Nat) : Int) → (∀ i, i < k → m1 156 (4 * c + i) = pa_sg (pa_T n tx (s + i))) → x_fst (fun i => !pa_dg (pa_T n tx i)) w s = x_fst (fun i => !pa_dg (pa_T n tx i)) d (s + k) → z_T 278 2 [.inr (.inr 131), .inl (w : Int), .inl ki, d3] [] (z_st m1 g) Q := by
    intro d
    induction d with
    | zero =>
      intro k ki m1 d3 hk hki hf h34 hrow hx
      have hkw : k = w := by omega
      subst hkw
      exact y_278_2 ⟨(by unfold z_ok2; omega), fun _ => k1 hx m1 hf h34 hrow, (fun h => absurd h (by omega))⟩
    | succ d ih =>
      intro k ki m1 d3 hk hki hf h34 hrow hx
      subst hki
      rw [x_fst_s (d := d) (s := s + k)] at hx
      refine y_278_2 ⟨(by unfold z_ok2; omega), (fun h => absurd h (by omega)), fun _ => n_digit (pa_fr_Y h hf) h34 (by omega) (fun hd => ?_) (fun hd => y_278_7 ⟨(by unfold z_ok; omega), (fun h => absurd h (by omega)), fun _ => ?_⟩)⟩
      · rw [hd, if_neg (by decide)] at hx
        have hsg := pa_sg_dg hd
        refine y_278_7 ⟨by unfold z_ok; omega, fun _ => n_tells (c := c) (k := k) (by rw [z_un (by omega), hf 131 35 (by omega) (by omega)]; exact hc) c10 rfl (by omega) (y_278_16 (ih (k + 1) _ _ _ (by omega) (by omega) (fun a j q1 q2 => by rw [z_un (by omega), z_un (by omega)]; exact hf a j q1 q2) (by rw [z_un (by omega), z_ue rfl rfl]; rfl) (fun i hi => ?_) (by rw [show s + (k + 1) = s + k + 1 by omega]; exact hx))), fun hh => absurd hh (by omega)⟩
        by_cases hik : i = k
        · rw [hik, z_ue rfl rfl]
        · rw [z_un (by omega), z_un (by omega)]; exact hrow i (by omega)
      · have hf' : pa_dg (pa_T n tx (s + k)) = false := by
          cases hb : pa_dg (pa_T n tx (s + k)) with
          | false => rfl
          | true => exact absurd hb hd
        rw [hf', if_pos (by decide)] at hx
        exact k0 (by rw [hx]; omega) m1 hf (by rw [hx]; exact h34)
  exact y_278 (loop w 0 0 m _ (by omega) rfl (fun _ _ _ _ => rfl) (by rw [ha]; rfl) (fun i hi => absurd hi (by omega)) rfl)
/-- the bits of k signs -/
def pa_bits (n : Int) (tx : Nat → Int) (s : Nat) : Nat → Nat
  | 0 => 0
  | k + 1 => pa_bits n tx s k ||| 2 ^ (pa_sg (pa_T n tx (s + k))).toNat
theorem pa_bits_lt {n : Int} {tx : Nat → Int} {s : Nat} : ∀ k, pa_bits n tx s k < 8192
  | 0 => by show 0 < 8192; decide
  | k + 1 => by
    have h1 := pa_bits_lt (n := n) (tx := tx) (s := s) k
    have h2 := pa_sg_rng (c := pa_T n tx (s + k))
    have h3 : 2 ^ (pa_sg (pa_T n tx (s + k))).toNat < 2 ^ 13 := Nat.pow_lt_pow_right (by decide) (by omega)
    exact Nat.or_lt_two_pow (n := 13) h1 h3
theorem pa_bits_s {n : Int} {tx : Nat → Int} {s k : Nat} (h : pa_si (pa_T n tx (s + k)) = true) : q_bin 4 (pa_bits n tx s k : Int) (q_bin 6 1 (pa_sg (pa_T n tx (s + k)))) = (pa_bits n tx s (k + 1) : Int) := by
  have h0 := of_decide_eq_true h
  have h2 := pa_sg_rng (c := pa_T n tx (s + k))
  have := t_b_step (pa_bits_lt (n := n) (tx := tx) (s := s) k) (e := (pa_sg (pa_T n tx (s + k))).toNat) (by omega)
  rw [Int.toNat_of_nonneg h0] at this
  exact this
theorem n_readsSigns {m : z_M} {g : z_g} {Q : q_V → q_S → Prop} {n : Int} {tx : Nat → Int} {s c : Nat} (h : pa_Y m n tx) (ha : m 131 34 = (s : Int)) (hc : m 131 35 = (c : Int)) (c10 : c < 10) (s100 : s < 100) (kk : ∀ m' e, e = x_fst (fun i => !pa_si (pa_T n tx i)) 6 s → pa_fr c m m' → m' 131 34 = (e : Int) → m' 156 (4 * c) = (pa_bits n tx s (e - s) : Int) → Q (.inl (if s + 2 ≤ e then 1 else 0)) (z_st m' g)) : z_C 273 [.inr (.inr 131)] (z_st m g) Q := by
  have exit : ∀ (k : Nat) (m1 : z_M), pa_fr c m m1 → m1 131 34 = ((s + k : Nat) : Int) → k ≤ 6 → s + k = x_fst (fun i => !pa_si (pa_T n tx i)) 6 s → z_C 276 [.inr (.inr 131), .inl (0 : Int), .inl (pa_bits n tx s k : Int)] (z_st m1 g) (fun v S => z_T 273 53 [.inr (.inr 131), .inl (pa_bits n tx s k : Int), .inl (k : Int)] (q_push v []) S Q) := by
    intro k m1 hf h34 hk6 hx
    refine n_tells (c := c) (k := 0) (by rw [hf 131 35 (by omega) (by omega)]; exact hc) c10 rfl (by decide) (y_273_53 ?_)
    have := kk (q_upd m1 156 (4 * c + 0) (pa_bits n tx s k : Int)) (s + k) hx (fun a j q1 q2 => by rw [z_un (by omega)]; exact hf a j q1 q2) (by rw [z_un (by omega)]; exact h34) (by rw [z_ue rfl (by omega), show s + k - s = k by omega])
    refine ⟨(by unfold z_ok2; omega), fun h2 => ?_, fun h2 => ?_⟩
    · rw [if_neg (by omega)] at this; exact this
    · rw [if_pos (by omega)] at this; exact this
  have loop : ∀ (d k : Nat) (ki : Int) (m1 : z_M), k + d = 6 → ki = (k : Int) → pa_fr c m m1 → m1 131 34 = ((s + k : Nat) : Int) → x_fst (fun i => !pa_si (pa_T n tx i)) 6 s = x_fst (fun i => !pa_si (pa_T n tx i)) d (s + k) → z_T 273 4 [.inr (.inr 131), .inl (pa_bits n tx s k : Int), .inl ki] [] (z_st m1 g) Q := by
    intro d
    induction d with
    | zero =>
      intro k ki m1 hk hki hf h34 hx
      subst hki
      exact y_273_4 ⟨(by unfold z_ok2; omega), fun _ => exit k m1 hf h34 (by omega) hx.symm, (fun h => absurd h (by omega))⟩
    | succ d ih =>
      intro k ki m1 hk hki hf h34 hx
      subst hki
      rw [x_fst_s (d := d) (s := s + k)] at hx
      have hY := pa_fr_Y h hf
      have hTr := pa_T_rng' (i := s + k) hY
      have hsr := pa_sg_rng (c := pa_T n tx (s + k))
      refine y_273_4 ⟨(by unfold z_ok2; omega), (fun h => absurd h (by omega)), fun _ => n_sign hY h34 (by omega) (fun hsi => y_273_9 ⟨by unfold z_ok; omega, fun hh => absurd (of_decide_eq_true hsi) (by omega), fun _ => ?_⟩) (fun hsi => y_273_9 ⟨(by unfold z_ok; omega), fun _ => exit k m1 hf h34 (by omega) ?_, (fun h => absurd h (by omega))⟩)⟩
      · have hlt : ((s + k : Nat) : Int) < n := by
          refine pa_T_lt (m := m) (tx := tx) (fun hm => ?_)
          have := of_decide_eq_true hsi
          rw [hm] at this
          exact absurd this (by decide)
        have n80 := h.2.2.1
        have eT : pa_T n tx (s + k) = tx (s + k) := if_pos hlt
        have e154 : m1 154 (s + k) = pa_T n tx (s + k) := (hY.2.2.2 (s + k) hlt).1.trans eT.symm
        rw [hsi, if_neg (by decide)] at hx
        have go := ih (k + 1) ((k : Int) + 1) (q_upd m1 131 34 ((s + k + 1 : Nat) : Int)) (by omega) (by omega) (fun a j q1 q2 => by rw [z_un (by omega)]; exact hf a j q1 q2) (z_ue rfl rfl) hx
        rw [← pa_bits_s hsi] at go
        rw [show (q_upd m1 131 34 ((s + k + 1 : Nat) : Int)) 131 34 = ((s + k + 1 : Nat) : Int) from z_ue rfl rfl, show (((s + k + 1 : Nat) : Int) - 1).toNat = s + k by omega, show (q_upd m1 131 34 ((s + k + 1 : Nat) : Int)) 154 (s + k) = m1 154 (s + k) from z_un (by omega), e154]
        refine ⟨⟨by omega, by omega⟩, n_isIn (by unfold z_ok; omega) (by unfold z_ok; omega) (by unfold z_ok; omega) (fun h1 h2 => y_273_22 ?_) (fun hno => y_273_22 ?_)⟩
        · rw [show (q_upd m1 131 34 ((s + k + 1 : Nat) : Int)) 131 34 = ((s + k + 1 : Nat) : Int) from z_ue rfl rfl, show (((s + k + 1 : Nat) : Int) - 1).toNat = s + k by omega, show (q_upd m1 131 34 ((s + k + 1 : Nat) : Int)) 154 (s + k) = m1 154 (s + k) from z_un (by omega), e154]
          have e : pa_sg (pa_T n tx (s + k)) = pa_T n tx (s + k) - 97 + 10 := by
            unfold pa_sg
            rw [if_neg (by omega), if_pos ⟨h1, h2⟩]
          rw [e] at go
          exact ⟨(by unfold z_ok; omega), (fun h => absurd h (by omega)), fun _ => ⟨⟨by omega, by omega⟩, go⟩⟩
        · rw [show (q_upd m1 131 34 ((s + k + 1 : Nat) : Int)) 131 34 = ((s + k + 1 : Nat) : Int) from z_ue rfl rfl, show (((s + k + 1 : Nat) : Int) - 1).toNat = s + k by omega, show (q_upd m1 131 34 ((s + k + 1 : Nat) : Int)) 154 (s + k) = m1 154 (s + k) from z_un (by omega), e154]
          have e : pa_sg (pa_T n tx (s + k)) = pa_T n tx (s + k) - 48 := by
            have hh := of_decide_eq_true hsi
            unfold pa_sg at hh ⊢
            by_cases c1 : 48 ≤ pa_T n tx (s + k) ∧ pa_T n tx (s + k) ≤ 57
            · rw [if_pos c1]
            · rw [if_neg c1, if_neg hno] at hh
              exact absurd hh (by decide)
          rw [e] at go
          exact ⟨(by unfold z_ok; omega), fun _ => ⟨⟨by omega, by omega⟩, go⟩, (fun h => absurd h (by omega))⟩
      · have hf' : pa_si (pa_T n tx (s + k)) = false := by
          cases hb : pa_si (pa_T n tx (s + k)) with
          | false => rfl
          | true => exact absurd hb hsi
        rw [hf', if_pos (by decide)] at hx
        exact hx.symm
  exact y_273 (loop 6 0 0 m rfl rfl (fun _ _ _ _ => rfl) (by rw [ha]; rfl) rfl)
theorem n_readsNumber {m : z_M} {g : z_g} {Q : q_V → q_S → Prop} {n : Int} {tx : Nat → Int} {s c : Nat} (h : pa_Y m n tx) (ha : m 131 34 = (s : Int)) (hc : m 131 35 = (c : Int)) (c10 : c < 10) (s100 : s < 100) (k1 : pa_dg (pa_T n tx s) = true → pa_si (pa_T n tx (s + 1)) = true → pa_dg (pa_T n tx (s + 2)) = true → pa_dg (pa_T n tx (s + 3)) = true → ∀ m', pa_fr c m m' → m' 131 34 = ((s + 4 : Nat) : Int) → m' 156 (4 * c) = pa_sg (pa_T n tx s) → m' 156 (4 * c + 1) = pa_sg (pa_T n tx (s + 1)) → m' 156 (4 * c + 2) = 10 * pa_sg (pa_T n tx (s + 2)) + pa_sg (pa_T n tx (s + 3)) → Q (.inl 1) (z_st m' g)) (k0 : ∀ (m' : z_M) (e : Nat), pa_fr c m m' → m' 131 34 = (e : Int) → (e = s ∧ ¬ pa_dg (pa_T n tx s) = true) ∨ (e = s + 1 ∧ pa_dg (pa_T n tx s) = true ∧ ¬ pa_si (pa_T n tx (s + 1)) = true) ∨ (e = s + 2 ∧ pa_dg (pa_T n tx s) = true ∧ pa_si (pa_T n tx (s + 1)) = true ∧ ¬ pa_dg (pa_T n tx (s + 2)) = true) ∨ (e = s + 3 ∧ pa_dg (pa_T n tx s) = true ∧ pa_si (pa_T n tx (s + 1)) = true ∧ pa_dg (pa_T n tx (s + 2)) = true ∧ ¬ pa_dg (pa_T n tx (s + 3)) = true) → Q (.inl 0) (z_st m' g)) : z_C 277 [.inr (.inr 131)] (z_st m g) Q := by
  refine y_277 (n_digit h ha (by omega) (fun d0 => ?_) (fun d0 => y_277_2 ⟨(by unfold z_ok; omega), (fun h => absurd h (by omega)), fun _ => k0 m s (fun _ _ _ _ => rfl) ha (Or.inl ⟨rfl, d0⟩)⟩))
  have g0 := pa_sg_dg d0
  have F1 : pa_fr c m (q_upd m 131 34 ((s + 1 : Nat) : Int)) := fun a j q1 q2 => z_un q1
  have a1 : (q_upd m 131 34 ((s + 1 : Nat) : Int)) 131 34 = ((s + 1 : Nat) : Int) := z_ue rfl rfl
  generalize q_upd m 131 34 ((s + 1 : Nat) : Int) = m1 at F1 a1
  refine y_277_2 ⟨by unfold z_ok; omega, fun _ => n_sign (pa_fr_Y h F1) a1 (by omega) (fun d1 => ?_) (fun d1 => y_277_9 ⟨(by unfold z_ok; omega), (fun h => absurd h (by omega)), fun _ => k0 m1 (s + 1) F1 a1 (Or.inr (Or.inl ⟨rfl, d0, d1⟩))⟩), fun hh => absurd hh (by omega)⟩
  have g1 := of_decide_eq_true d1
  have g1' := pa_sg_rng (c := pa_T n tx (s + 1))
  have F2 : pa_fr c m (q_upd m1 131 34 ((s + 1 + 1 : Nat) : Int)) := fun a j q1 q2 => by rw [z_un q1]; exact F1 a j q1 q2
  have a2 : (q_upd m1 131 34 ((s + 1 + 1 : Nat) : Int)) 131 34 = ((s + 2 : Nat) : Int) := z_ue rfl rfl
  generalize q_upd m1 131 34 ((s + 1 + 1 : Nat) : Int) = m2 at F2 a2
  refine y_277_9 ⟨by unfold z_ok; omega, fun _ => n_digit (pa_fr_Y h F2) a2 (by omega) (fun d2 => ?_) (fun d2 => y_277_16 ⟨(by unfold z_ok; omega), (fun h => absurd h (by omega)), fun _ => k0 m2 (s + 2) F2 a2 (Or.inr (Or.inr (Or.inl ⟨rfl, d0, d1, d2⟩)))⟩), fun hh => absurd hh (by omega)⟩
  have g2 := pa_sg_dg d2
  have F3 : pa_fr c m (q_upd m2 131 34 ((s + 2 + 1 : Nat) : Int)) := fun a j q1 q2 => by rw [z_un q1]; exact F2 a j q1 q2
  have a3 : (q_upd m2 131 34 ((s + 2 + 1 : Nat) : Int)) 131 34 = ((s + 3 : Nat) : Int) := z_ue rfl rfl
  generalize q_upd m2 131 34 ((s + 2 + 1 : Nat) : Int) = m3 at F3 a3
  refine y_277_16 ⟨by unfold z_ok; omega, fun _ => n_digit (pa_fr_Y h F3) a3 (by omega) (fun d3 => ?_) (fun d3 => y_277_23 ⟨(by unfold z_ok; omega), (fun h => absurd h (by omega)), fun _ => k0 m3 (s + 3) F3 a3 (Or.inr (Or.inr (Or.inr ⟨rfl, d0, d1, d2, d3⟩)))⟩), fun hh => absurd hh (by omega)⟩
  have g3 := pa_sg_dg d3
  have F4 : pa_fr c m (q_upd m3 131 34 ((s + 3 + 1 : Nat) : Int)) := fun a j q1 q2 => by rw [z_un q1]; exact F3 a j q1 q2
  have a4 : (q_upd m3 131 34 ((s + 3 + 1 : Nat) : Int)) 131 34 = ((s + 4 : Nat) : Int) := z_ue rfl rfl
  generalize q_upd m3 131 34 ((s + 3 + 1 : Nat) : Int) = m4 at F4 a4
  have hc4 : m4 131 35 = (c : Int) := by rw [F4 131 35 (by omega) (by omega)]; exact hc
  refine y_277_23 ⟨by unfold z_ok; omega, fun _ => n_tells (c := c) (k := 0) hc4 c10 rfl (by decide) (y_277_32 (n_tells (c := c) (k := 1) (by rw [z_un (by omega)]; exact hc4) c10 rfl (by decide) (y_277_36 (n_tells (c := c) (k := 2) (by rw [z_un (by omega), z_un (by omega)]; exact hc4) c10 rfl (by decide) (y_277_44 (k1 d0 d1 d2 d3 _ (fun a j q1 q2 => by rw [z_un (by omega), z_un (by omega), z_un (by omega)]; exact F4 a j q1 q2) (by rw [z_un (by omega), z_un (by omega), z_un (by omega)]; exact a4) ?_ ?_ ?_)))))), fun hh => absurd hh (by omega)⟩
  · rw [z_un (by omega), z_un (by omega), z_ue rfl (by omega)]
  · rw [z_un (by omega), z_ue rfl rfl]
  · rw [z_ue rfl rfl]
theorem x_fst_split {f : Nat → Bool} {b : Nat} : ∀ a s, x_fst f (a + b) s = if x_fst f a s < s + a then x_fst f a s else x_fst f b (s + a)
  | 0, s => by
    rw [Nat.zero_add, if_neg (by show ¬ s < s + 0; omega), Nat.add_zero]
  | a + 1, s => by
    rw [show a + 1 + b = a + b + 1 by omega, x_fst_s, x_fst_s]
    by_cases h : f s = true
    · rw [if_pos h, if_pos h, if_pos (by omega)]
    · rw [if_neg h, if_neg h, x_fst_split a (s + 1), show s + 1 + a = s + (a + 1) by omega]
def pa_ar (n : Int) (tx : Nat → Int) (s e i : Nat) : Int := if pa_T n tx s = 97 then (pa_bits n tx (s + 1) (e - (s + 1)) : Int) else if pa_T n tx s = 110 ∧ i = 2 then 10 * pa_sg (pa_T n tx (s + 3)) + pa_sg (pa_T n tx (s + 4)) else pa_sg (pa_T n tx (s + 1 + i))
def pa_na (c : Int) : Nat := if c = 97 ∨ c = 112 then 1 else 3
def pa_fc (c : Nat) (m m' : z_M) : Prop := ∀ a j, ¬ (a = 131 ∧ (j = 34 ∨ j = 35)) → ¬ (a = 155 ∧ j = c) → ¬ (a = 156 ∧ 4 * c ≤ j) → m' a j = m a j
theorem pa_go_dg {n : Int} {tx : Nat → Int} {s i : Nat} (h : ¬ pa_T n tx s = 97) (h2 : ¬ pa_T n tx s = 110 ∨ ¬ i = s + 2) : pa_go n tx s i = pa_dg (pa_T n tx i) := by
  unfold pa_go
  rw [if_neg (by omega)]
theorem pa_go_si {n : Int} {tx : Nat → Int} {s i : Nat} (h : pa_T n tx s = 97 ∨ (pa_T n tx s = 110 ∧ i = s + 2)) : pa_go n tx s i = pa_si (pa_T n tx i) := by
  unfold pa_go
  rw [if_pos h]
theorem pa_stop_d {n : Int} {tx : Nat → Int} {s w : Nat} (h : ¬ pa_T n tx s = 97) (h2 : ¬ pa_T n tx s = 110) (hw : pa_len (pa_T n tx s) = w + 1) : pa_stop n tx s = x_fst (fun i => !pa_dg (pa_T n tx i)) w (s + 1) := by
  unfold pa_stop
  rw [if_neg (by omega), hw, Nat.add_sub_cancel]
  exact x_fst_congr fun i _ _ => by rw [pa_go_dg h (Or.inl h2)]
theorem pa_stop_a {n : Int} {tx : Nat → Int} {s : Nat} (h : pa_T n tx s = 97) : pa_stop n tx s = x_fst (fun i => !pa_si (pa_T n tx i)) 2 (s + 1) := by
  have hw : pa_len (pa_T n tx s) = 3 := by rw [h]; rfl
  unfold pa_stop
  rw [if_neg (by omega), hw]
  exact x_fst_congr fun i _ _ => by rw [pa_go_si (Or.inl h)]
theorem pa_stop_n {n : Int} {tx : Nat → Int} {s : Nat} (h : pa_T n tx s = 110) : pa_stop n tx s = if pa_dg (pa_T n tx (s + 1)) = true then (if pa_si (pa_T n tx (s + 2)) = true then (if pa_dg (pa_T n tx (s + 3)) = true then (if pa_dg (pa_T n tx (s + 4)) = true then s + 5 else s + 4) else s + 3) else s + 2) else s + 1 := by
  have hw : pa_len (pa_T n tx s) = 5 := by rw [h]; rfl
  have h97 : ¬ pa_T n tx s = 97 := by omega
  unfold pa_stop
  rw [if_neg (by omega), hw]
  show x_fst _ 4 (s + 1) = _
  have e0 : ∀ k, x_fst (fun i => !pa_go n tx s i) 0 k = k := fun _ => rfl
  rw [x_fst_s, pa_go_dg h97 (Or.inr (by omega)), x_fst_s, pa_go_si (Or.inr ⟨h, rfl⟩), x_fst_s, pa_go_dg h97 (Or.inr (by omega)), x_fst_s, pa_go_dg h97 (Or.inr (by omega)), e0]
  cases pa_dg (pa_T n tx (s + 1)) <;> cases pa_si (pa_T n tx (s + 1 + 1)) <;> cases pa_dg (pa_T n tx (s + 1 + 1 + 1)) <;> cases pa_dg (pa_T n tx (s + 1 + 1 + 1 + 1)) <;> simp
theorem n_readsClause {m : z_M} {g : z_g} {Q : q_V → q_S → Prop} {n : Int} {tx : Nat → Int} {s c : Nat} (h : pa_Y m n tx) (ha : m 131 34 = (s : Int)) (hc : m 131 35 = (c : Int)) (c10 : c < 10) (s100 : s ≤ 80) (kg : pa_good n tx s → ∀ m', pa_fc c m m' → m' 131 34 = (pa_fin n tx s : Int) → m' 131 35 = ((c + 1 : Nat) : Int) → m' 155 c = pa_T n tx s → (∀ i, i < pa_na (pa_T n tx s) → m' 156 (4 * c + i) = pa_ar n tx s (pa_fin n tx s) i) → Q (.inl 1) (z_st m' g)) (kb : ¬ pa_good n tx s → ∀ m', pa_fc c m m' → m' 131 34 = (pa_stop n tx s : Int) → Q (.inl 0) (z_st m' g)) : z_C 271 [.inr (.inr 131)] (z_st m g) Q := by
  have hr := pa_T_rng' (i := s) h
  have M1 : ∀ m' : z_M, m' = q_upd (q_upd m 131 34 ((m 131 34) + (1 : Int))) 155 ((m 131 35).toNat) (pa_T n tx s) → pa_Y m' n tx ∧ m' 131 34 = ((s + 1 : Nat) : Int) ∧ m' 131 35 = (c : Int) ∧ m' 155 c = pa_T n tx s ∧ pa_fc c m m' := by
    intro m' e
    rw [e, ha, hc, show ((c : Int)).toNat = c by omega]
    refine ⟨pa_Y_of h (by rw [z_un (by omega), z_un (by omega)]) (fun j => by rw [z_un (by omega), z_un (by omega)]), by rw [z_un (by omega), z_ue rfl rfl]; omega, by rw [z_un (by omega), z_un (by omega)]; exact hc, z_ue rfl rfl, fun a j q1 q2 q3 => by rw [z_un q2, z_un (by omega)]⟩
  have toc : ∀ m1 m2 : z_M, pa_fc c m m1 → pa_fr c m1 m2 → pa_fc c m m2 := fun m1 m2 f1 f2 a j q1 q2 q3 => by rw [f2 a j (by omega) (by omega)]; exact f1 a j q1 q2 q3
  have body : (pa_T n tx s = 112 ∨ pa_T n tx s = 97 ∨ pa_T n tx s = 115 ∨ pa_T n tx s = 110) → (z_in (m 131 35) 10 ∧
      z_ok2 (pa_T n tx s) (97 : Int) ∧
      (¬ (pa_T n tx s) = (97 : Int) →
        z_ok2 (pa_T n tx s) (110 : Int) ∧
        (¬ (pa_T n tx s) = (110 : Int) →
          z_ok2 (pa_T n tx s) (112 : Int) ∧
          (¬ (pa_T n tx s) = (112 : Int) →
            z_C 278 [.inr (.inr 131), .inl (3 : Int)] (z_st (q_upd (q_upd m 131 34 ((m 131 34) + (1 : Int))) 155 ((m 131 35).toNat) (pa_T n tx s)) g) (fun v S => z_T 271 49 [.inr (.inr 131), .inl (pa_T n tx s), q_dead] (q_push v []) S Q)) ∧
          ((pa_T n tx s) = (112 : Int) →
            z_C 278 [.inr (.inr 131), .inl (1 : Int)] (z_st (q_upd (q_upd m 131 34 ((m 131 34) + (1 : Int))) 155 ((m 131 35).toNat) (pa_T n tx s)) g) (fun v S => z_T 271 49 [.inr (.inr 131), .inl (pa_T n tx s), q_dead] (q_push v []) S Q))) ∧
        ((pa_T n tx s) = (110 : Int) →
          z_C 277 [.inr (.inr 131)] (z_st (q_upd (q_upd m 131 34 ((m 131 34) + (1 : Int))) 155 ((m 131 35).toNat) (pa_T n tx s)) g) (fun v S => z_T 271 40 [.inr (.inr 131), .inl (pa_T n tx s), q_dead] (q_push v []) S Q))) ∧
      ((pa_T n tx s) = (97 : Int) →
        z_C 273 [.inr (.inr 131)] (z_st (q_upd (q_upd m 131 34 ((m 131 34) + (1 : Int))) 155 ((m 131 35).toNat) (pa_T n tx s)) g) (fun v S => z_T 271 34 [.inr (.inr 131), .inl (pa_T n tx s), q_dead] (q_push v []) S Q))) := by
    intro hlet
    obtain ⟨g1, g2, g3, g4, g5⟩ := M1 _ rfl
    generalize q_upd (q_upd m 131 34 ((m 131 34) + (1 : Int))) 155 ((m 131 35).toNat) (pa_T n tx s) = m1 at g1 g2 g3 g4 g5
    rw [hc]
    have dig : ∀ (w : Nat) (wi : Int), ¬ pa_T n tx s = 97 → ¬ pa_T n tx s = 110 → wi = (w : Int) → w ≤ 3 → 1 ≤ w → pa_len (pa_T n tx s) = w + 1 → (pa_T n tx s = 112 → w = 1) → pa_na (pa_T n tx s) ≤ w → z_C 278 [.inr (.inr 131), .inl wi] (z_st m1 g) (fun v S => z_T 271 49 [.inr (.inr 131), .inl (pa_T n tx s), q_dead] (q_push v []) S Q) := by
      intro w wi n97 n110 hwi w3 w1 hw hp hna
      have hst := pa_stop_d n97 n110 hw
      have hfin : pa_fin n tx s = s + (w + 1) := by unfold pa_fin; rw [if_neg n97, hw]
      refine n_readsDigits g1 g2 g3 c10 (by omega) hwi w3 (fun hx m2 f2 a2 r2 => y_271_49 ⟨(by unfold z_ok; omega), (fun h => absurd h (by omega)), fun _ => ⟨Or.inr rfl, ?_⟩⟩) (fun hx m2 f2 a2 => y_271_49 ⟨(by unfold z_ok; omega), fun _ => ⟨Or.inl rfl, ?_⟩, (fun h => absurd h (by omega))⟩)
      · have e35 : m2 131 35 = (c : Int) := by rw [f2 131 35 (by omega) (by omega)]; exact g3
        rw [e35]
        refine kg ⟨by omega, by rw [hst, hx, hw]; omega⟩ _ (fun a j q1 q2 q3 => by rw [z_un (by omega)]; exact toc m1 m2 g5 f2 a j q1 q2 q3) (by rw [z_un (by omega), a2, hfin]; omega) (by rw [z_ue rfl rfl]; omega) (by rw [z_un (by omega), f2 155 c (by omega) (by omega)]; exact g4) (fun i hi => ?_)
        rw [z_un (by omega), r2 i (by omega)]
        unfold pa_ar
        rw [if_neg n97, if_neg (fun hh => n110 hh.1)]
      · have e35 : m2 131 35 = (c : Int) := by rw [f2 131 35 (by omega) (by omega)]; exact g3
        rw [e35]
        refine kb (fun hg => ?_) _ (fun a j q1 q2 q3 => by rw [z_un (by omega)]; exact toc m1 m2 g5 f2 a j q1 q2 q3) (by rw [z_un (by omega), a2, hst])
        have := hg.2
        rw [hst, hw] at this
        omega
    refine ⟨⟨by omega, by omega⟩, (by unfold z_ok2; omega), fun n97 => ⟨(by unfold z_ok2; omega), fun n110 => ⟨(by unfold z_ok2; omega), fun n112 => ?_, fun e112 => ?_⟩, fun e110 => ?_⟩, fun e97 => ?_⟩
    · have e115 : pa_T n tx s = 115 := by omega
      refine dig 3 3 n97 n110 rfl (by decide) (by decide) (by rw [e115]; rfl) (fun hh => absurd hh n112) (by rw [e115]; decide)
    · refine dig 1 1 n97 n110 rfl (by decide) (by decide) (by rw [e112]; rfl) (fun _ => rfl) (by rw [e112]; decide)
    · have hst := pa_stop_n e110
      have hw : pa_len (pa_T n tx s) = 5 := by rw [e110]; rfl
      have hfin : pa_fin n tx s = s + 5 := by unfold pa_fin; rw [if_neg n97, hw]
      refine n_readsNumber g1 g2 g3 c10 (by omega) (fun d0 d1 d2 d3 m2 f2 a2 r0 r1 r2 => y_271_40 (y_271_49 ⟨(by unfold z_ok; omega), (fun h => absurd h (by omega)), fun _ => ⟨Or.inr rfl, ?_⟩⟩)) (fun m2 e f2 a2 he => y_271_40 (y_271_49 ⟨(by unfold z_ok; omega), fun _ => ⟨Or.inl rfl, ?_⟩, (fun h => absurd h (by omega))⟩))
      · have e35 : m2 131 35 = (c : Int) := by rw [f2 131 35 (by omega) (by omega)]; exact g3
        rw [e35]
        refine kg ⟨by omega, ?_⟩ _ (fun a j q1 q2 q3 => by rw [z_un (by omega)]; exact toc m1 m2 g5 f2 a j q1 q2 q3) (by rw [z_un (by omega), a2, hfin]) (by rw [z_ue rfl rfl]; omega) (by rw [z_un (by omega), f2 155 c (by omega) (by omega)]; exact g4) (fun i hi => ?_)
        · rw [hst, if_pos d0, if_pos d1, if_pos d2, if_pos d3, hw]
        · have hi3 : i < 3 := by rw [e110] at hi; exact hi
          rw [z_un (by omega)]
          unfold pa_ar
          rw [if_neg n97]
          by_cases i2 : i = 2
          · rw [if_pos ⟨e110, i2⟩, i2]; exact r2
          · rw [if_neg (fun hh => i2 hh.2)]
            have hi' : i = 0 ∨ i = 1 := by omega
            rcases hi' with hh | hh
            · rw [hh]; exact r0
            · rw [hh]; exact r1
      · have e35 : m2 131 35 = (c : Int) := by rw [f2 131 35 (by omega) (by omega)]; exact g3
        rw [e35]
        have hs5 : pa_stop n tx s = e ∧ e < s + 5 := by
          rw [hst]
          rcases he with ⟨q1, q2⟩ | ⟨q1, q2, q3⟩ | ⟨q1, q2, q3, q4⟩ | ⟨q1, q2, q3, q4, q5⟩
          · rw [if_neg q2]; omega
          · rw [if_pos q2, if_neg q3]; omega
          · rw [if_pos q2, if_pos q3, if_neg q4]; omega
          · rw [if_pos q2, if_pos q3, if_pos q4, if_neg q5]; omega
        refine kb (fun hg => ?_) _ (fun a j q1 q2 q3 => by rw [z_un (by omega)]; exact toc m1 m2 g5 f2 a j q1 q2 q3) (by rw [z_un (by omega), a2, hs5.1])
        have := hg.2
        rw [hw] at this
        omega
    · have hst := pa_stop_a e97
      have hw : pa_len (pa_T n tx s) = 3 := by rw [e97]; rfl
      have hfin : pa_fin n tx s = x_fst (fun i => !pa_si (pa_T n tx i)) 4 (s + 3) := by unfold pa_fin; rw [if_pos e97]
      have hsp : x_fst (fun i => !pa_si (pa_T n tx i)) 6 (s + 1) = if pa_stop n tx s < s + 3 then pa_stop n tx s else pa_fin n tx s := by
        rw [hst, hfin]
        exact x_fst_split (b := 4) 2 (s + 1)
      have hfr := x_fst_rng (fun i => !pa_si (pa_T n tx i)) 4 (s + 3)
      have hsle := pa_stop_le (n := n) (tx := tx) (s := s)
      refine n_readsSigns g1 g2 g3 c10 (by omega) fun m2 e he f2 a2 r2 => y_271_34 ?_
      have e35 : m2 131 35 = (c : Int) := by rw [f2 131 35 (by omega) (by omega)]; exact g3
      rw [hsp] at he
      by_cases hlt : pa_stop n tx s < s + 3
      · rw [if_pos hlt] at he
        rw [if_neg (by omega)]
        refine y_271_49 ⟨(by unfold z_ok; omega), fun _ => ⟨Or.inl rfl, ?_⟩, (fun h => absurd h (by omega))⟩
        rw [e35]
        refine kb (fun hg => ?_) _ (fun a j q1 q2 q3 => by rw [z_un (by omega)]; exact toc m1 m2 g5 f2 a j q1 q2 q3) (by rw [z_un (by omega), a2, he])
        have := hg.2
        rw [hw] at this
        omega
      · rw [if_neg hlt] at he
        rw [if_pos (by omega)]
        refine y_271_49 ⟨(by unfold z_ok; omega), (fun h => absurd h (by omega)), fun _ => ⟨Or.inr rfl, ?_⟩⟩
        rw [e35]
        refine kg ⟨by omega, by omega⟩ _ (fun a j q1 q2 q3 => by rw [z_un (by omega)]; exact toc m1 m2 g5 f2 a j q1 q2 q3) (by rw [z_un (by omega), a2, he]) (by rw [z_ue rfl rfl]; omega) (by rw [z_un (by omega), f2 155 c (by omega) (by omega)]; exact g4) (fun i hi => ?_)
        have hi0 : i = 0 := by
          rw [e97] at hi
          have : i < 1 := hi
          omega
        rw [z_un (by omega), hi0, Nat.add_zero, r2]
        unfold pa_ar
        rw [if_pos e97, he]
  refine y_271 (n_next h ha (by omega) (y_271_2 ⟨(by unfold z_ok2; omega), fun hh => body (Or.inl hh), fun n112 => ⟨(by unfold z_ok2; omega), fun hh => body (Or.inr (Or.inl hh)), fun n97 => ⟨(by unfold z_ok2; omega), fun hh => body (Or.inr (Or.inr (Or.inl hh))), fun n115 => ⟨(by unfold z_ok2; omega), fun hh => body (Or.inr (Or.inr (Or.inr hh))), fun n110 => ?_⟩⟩⟩⟩))
  have hl : pa_len (pa_T n tx s) = 0 := by unfold pa_len; rw [if_neg n97, if_neg n110, if_neg n112, if_neg n115]
  refine kb (fun hg => hg.1 hl) m (fun _ _ _ _ _ => rfl) ?_
  unfold pa_stop
  rw [if_pos hl]
  exact ha
/-- what the model keeps of its clauses -/
def pa_mr (m : z_M) (n : Int) (tx : Nat → Int) (l : List (Nat × Nat)) : Prop := ∀ (i a b : Nat), l[i]? = some (a, b) → m 155 i = pa_T n tx a ∧ ∀ k, k < pa_na (pa_T n tx a) → m 156 (4 * i + k) = pa_ar n tx a b k
def pa_mf (m m' : z_M) : Prop := ∀ a j, ¬ (a = 131 ∧ (j = 34 ∨ j = 35)) → ¬ a = 155 → ¬ a = 156 → m' a j = m a j
theorem pa_good_iff {n : Int} {tx : Nat → Int} {s : Nat} : pa_good n tx s ↔ ¬ (pa_len (pa_T n tx s) = 0 ∨ pa_stop n tx s < s + pa_len (pa_T n tx s)) := by
  have := pa_stop_le (n := n) (tx := tx) (s := s)
  unfold pa_good
  omega
theorem pa_na_le {c : Int} : pa_na c ≤ 3 := by unfold pa_na; split <;> omega
theorem n_readsAll {m : z_M} {g : z_g} {Q : q_V → q_S → Prop} {n : Int} {tx : Nat → Int} (h : pa_Y m n tx) (kk : ∀ m', pa_mf m m' → ((pa_parse n tx 10 0).2 = -1 → m' 131 35 = ((pa_parse n tx 10 0).1.length : Int) ∧ pa_mr m' n tx (pa_parse n tx 10 0).1) → (¬ (pa_parse n tx 10 0).2 = -1 → m' 131 34 = (pa_parse n tx 10 0).2) → Q (.inl (if (pa_parse n tx 10 0).2 = -1 then 1 else 0)) (z_st m' g)) : z_C 270 [.inr (.inr 131)] (z_st m g) Q := by
  have n80 := h.2.2.1
  generalize hPR : pa_parse n tx 10 0 = PR at kk
  have loop : ∀ (f c s : Nat) (m1 : z_M) (l : List (Nat × Nat)) (R : q_V → q_S → Prop), (∀ v m', z_T 270 9 [.inr (.inr 131), .inl v] [] (z_st m' g) Q → R (.inl v) (z_st m' g)) → c + f = 10 → 1 ≤ f → (s : Int) ≤ n → l.length = c → m1 131 34 = (s : Int) → m1 131 35 = (c : Int) → pa_mf m m1 → pa_mr m1 n tx l → l ++ (pa_parse n tx f s).1 = PR.1 → (pa_parse n tx f s).2 = PR.2 → z_C 271 [.inr (.inr 131)] (z_st m1 g) R := by
    intro f
    induction f with
    | zero => intro c s m1 l R hR hc h1; exact absurd h1 (by omega)
    | succ f ih =>
      intro c s m1 l R hR hc h1 hs hl h34 h35 hf hrow hP1 hP2
      have hY : pa_Y m1 n tx := pa_Y_of h (hf 131 33 (by omega) (by omega) (by omega)) (fun j => hf 154 j (by omega) (by omega) (by omega))
      have hfl := pa_fin_le (n := n) (tx := tx) (s := s)
      have hsl := pa_stop_le (n := n) (tx := tx) (s := s)
      have hl5 := pa_len_le (c := pa_T n tx s)
      unfold pa_parse at hP1 hP2
      refine n_readsClause hY h34 h35 (by omega) (by omega) (fun hg m2 f2 a2 c2 l2 r2 => hR _ _ ?_) (fun hg m2 f2 a2 => hR _ _ ?_)
      · have hng := pa_good_iff.1 hg
        rw [if_neg hng] at hP1 hP2
        have F2 : pa_mf m m2 := fun a j q1 q2 q3 => by rw [f2 a j q1 (by omega) (by omega)]; exact hf a j q1 q2 q3
        have hY2 : pa_Y m2 n tx := pa_Y_of h (F2 131 33 (by omega) (by omega) (by omega)) (fun j => F2 154 j (by omega) (by omega) (by omega))
        have hTr := pa_T_rng' (i := pa_fin n tx s) hY2
        have R2 : pa_mr m2 n tx (l ++ [(s, pa_fin n tx s)]) := by
          intro i a b hi
          by_cases hic : i < l.length
          · rw [List.getElem?_append_left hic] at hi
            have := hrow i a b hi
            refine ⟨by rw [f2 155 i (by omega) (by omega) (by omega)]; exact this.1, fun k hk => ?_⟩
            have := pa_na_le (c := pa_T n tx a)
            rw [f2 156 _ (by omega) (by omega) (by omega)]
            exact (hrow i a b hi).2 k hk
          · rw [List.getElem?_append_right (by omega)] at hi
            have hi0 : i - l.length = 0 := by
              by_cases h0 : i - l.length = 0
              · exact h0
              · rw [List.getElem?_eq_none (by simp; omega)] at hi; cases hi
            rw [hi0] at hi
            cases hi
            have hil : i = c := by omega
            rw [hil]
            exact ⟨l2, r2⟩
        have hlen : (l ++ [(s, pa_fin n tx s)]).length = c + 1 := by rw [List.length_append, hl]; rfl
        -- the end
        have stop : (pa_fin n tx s : Int) = n → (z_ok (1 : Int) ∧
            ((1 : Int) = (0 : Int) →
              Q (.inl (0 : Int)) (z_st m2 g)) ∧
            (¬ (1 : Int) = (0 : Int) →
              z_ok2 (m2 131 34) (m2 131 33) ∧
              (¬ (m2 131 34) = (m2 131 33) →
                Q (.inl (0 : Int)) (z_st m2 g)) ∧
              ((m2 131 34) = (m2 131 33) →
                Q (.inl (1 : Int)) (z_st m2 g)))) := by
          intro heq
          rw [if_pos heq] at hP1 hP2
          have hv : PR.2 = -1 := hP2.symm
          have hL : PR.1 = l ++ [(s, pa_fin n tx s)] := hP1.symm
          have := kk m2 F2 (fun _ => by rw [hL, hlen]; exact ⟨c2, R2⟩) (fun hh => absurd hv hh)
          rw [if_pos hv] at this
          rw [a2, hY2.1]
          exact ⟨(by unfold z_ok; omega), fun hh => absurd hh (by decide), fun _ => ⟨(by unfold z_ok2; omega), fun hh => absurd heq hh, fun _ => this⟩⟩
        have bad : ¬ (pa_fin n tx s : Int) = n → (¬ pa_T n tx (pa_fin n tx s) = 59 ∨ f = 0) → (z_ok (1 : Int) ∧
            ((1 : Int) = (0 : Int) →
              Q (.inl (0 : Int)) (z_st m2 g)) ∧
            (¬ (1 : Int) = (0 : Int) →
              z_ok2 (m2 131 34) (m2 131 33) ∧
              (¬ (m2 131 34) = (m2 131 33) →
                Q (.inl (0 : Int)) (z_st m2 g)) ∧
              ((m2 131 34) = (m2 131 33) →
                Q (.inl (1 : Int)) (z_st m2 g)))) := by
          intro hne hor
          rw [if_neg hne, if_pos hor] at hP1 hP2
          have hv : PR.2 = (pa_fin n tx s : Int) := hP2.symm
          have := kk m2 F2 (fun hh => absurd (hv.symm.trans hh) (by omega)) (fun _ => by rw [hv]; exact a2)
          rw [if_neg (by omega)] at this
          rw [a2, hY2.1]
          exact ⟨(by unfold z_ok; omega), fun hh => absurd hh (by decide), fun _ => ⟨(by unfold z_ok2; omega), fun _ => this, fun hh => absurd hh hne⟩⟩
        refine y_270_9 ⟨(by unfold z_ok; omega), (fun h => absurd h (by omega)), fun _ => ?_⟩
        rw [c2]
        refine ⟨(by unfold z_ok2; omega), fun h10 => ?_, fun h10 => n_next hY2 a2 (by omega) (y_270_17 ⟨(by unfold z_ok2; omega), fun h59 => ?_, fun h59 => ?_⟩)⟩
        · by_cases heq : (pa_fin n tx s : Int) = n
          · exact stop heq
          · exact bad heq (Or.inr (by omega))
        · by_cases heq : (pa_fin n tx s : Int) = n
          · exact stop heq
          · exact bad heq (Or.inl h59)
        · have hlt := pa_T_lt (m := m) (n := n) (tx := tx) (i := pa_fin n tx s) (by omega)
          rw [if_neg (by omega), if_neg (by omega)] at hP1 hP2
          refine ih (c + 1) (pa_fin n tx s + 1) _ (l ++ [(s, pa_fin n tx s)]) _ (fun v m' hv => y_270_27 hv) (by omega) (by omega) (by omega) hlen (by rw [z_ue rfl rfl, a2]; omega) (by rw [z_un (by omega)]; exact c2) (fun a j q1 q2 q3 => by rw [z_un (by omega)]; exact F2 a j q1 q2 q3) (fun i a b hi => ?_) ?_ hP2
          · refine ⟨by rw [z_un (by omega)]; exact (R2 i a b hi).1, fun k hk => by rw [z_un (by omega)]; exact (R2 i a b hi).2 k hk⟩
          · rw [← hP1, List.append_assoc]
            rfl
      · have hb : pa_len (pa_T n tx s) = 0 ∨ pa_stop n tx s < s + pa_len (pa_T n tx s) := Classical.not_not.1 (fun hh => hg (pa_good_iff.2 hh))
        rw [if_pos hb] at hP2
        have hv : PR.2 = (pa_stop n tx s : Int) := hP2.symm
        have F2 : pa_mf m m2 := fun a j q1 q2 q3 => by rw [f2 a j q1 (by omega) (by omega)]; exact hf a j q1 q2 q3
        have := kk m2 F2 (fun hh => absurd (hv.symm.trans hh) (by omega)) (fun _ => by rw [hv]; exact a2)
        rw [if_neg (by omega)] at this
        exact y_270_9 ⟨(by unfold z_ok; omega), fun _ => ⟨(by unfold z_ok; omega), fun _ => this, (fun h => absurd h (by omega))⟩, (fun h => absurd h (by omega))⟩
  refine y_270 (loop 10 0 0 _ [] _ (fun v m' hv => y_270_8 hv) rfl (by omega) h.2.1 rfl (by rw [z_un (by omega), z_ue rfl rfl]; rfl) (by rw [z_ue rfl rfl]; rfl) (fun a j q1 q2 q3 => by rw [z_un (by omega), z_un (by omega)]) (fun i a b hi => by rw [List.getElem?_nil] at hi; cases hi) (by rw [hPR]; rfl) (by rw [hPR]))
