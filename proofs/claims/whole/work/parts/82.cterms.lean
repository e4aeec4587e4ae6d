/-! CONTRACTS of the class: a sum that is looked at -/
/-- the number by its kind, before it is made modulo p -/
def x_raw (S : Nat) (kd fg e v : Int) : Int := if kd = 1 then (if e % 2 = 1 then -v else v) else if kd = 2 then v * (fg + 1) else if kd = 3 then (if e % 2 = 1 then -v else v) * (e + fg) else if kd = 4 then (if e = (x_at S (x_many S - 1) : Int) then 0 else v * (fg + 1)) else if kd = 5 then e * v else v
def n_at (p : Int) (S : Nat) (kd fg : Int) (told : Nat → Int) (e : Nat) : Int := if e ≤ 12 ∧ S.testBit e = true then x_raw S kd fg e (told e) % p else 0
def x_N (p : Int) (S : Nat) (N : Nat → Int) : Prop := (∀ e, 0 ≤ N e ∧ N e < p) ∧ ∀ e, (12 < e ∨ ¬ S.testBit e = true) → N e = 0
theorem n_at_N {p : Int} {S : Nat} {kd fg : Int} {told : Nat → Int} (hp : z_pr p) : x_N p S (n_at p S kd fg told) := by
  have hp5 := z_pr_le hp
  refine ⟨fun e => ?_, fun e he => ?_⟩
  · unfold n_at
    by_cases h : e ≤ 12 ∧ S.testBit e = true
    · rw [if_pos h]; exact z_m0 (by omega)
    · rw [if_neg h]; omega
  · unfold n_at
    rw [if_neg (fun h => by rcases he with he | he; exact absurd h.1 (by omega); exact he h.2)]
theorem n_at_at {p : Int} {S : Nat} {kd fg : Int} {told : Nat → Int} {k : Nat} (hk : k < x_many S) : n_at p S kd fg told (x_at S k) = x_raw S kd fg (x_at S k) (told (x_at S k)) % p := by
  have h := x_at_mem hk
  unfold n_at
  rw [if_pos ⟨by omega, h.2⟩]
theorem x_mul_rng {a b A B : Int} (h1 : -A ≤ a) (h2 : a ≤ A) (h3 : 0 ≤ b) (h4 : b ≤ B) : -(A * B) ≤ a * b ∧ a * b ≤ A * B := by
  have hA : 0 ≤ A := by omega
  have h5 : a * b ≤ A * B := by
    calc a * b ≤ A * b := Int.mul_le_mul_of_nonneg_right h2 h3
      _ ≤ A * B := Int.mul_le_mul_of_nonneg_left h4 hA
  have h6 : (-a) * b ≤ A * B := by
    calc (-a) * b ≤ A * b := Int.mul_le_mul_of_nonneg_right (by omega) h3
      _ ≤ A * B := Int.mul_le_mul_of_nonneg_left h4 hA
  rw [Int.neg_mul] at h6
  omega
theorem x_raw_ok {S : Nat} {kd fg e v : Int} (hf : 0 ≤ fg ∧ fg ≤ 9) (he : 0 ≤ e ∧ e ≤ 12) (hv : 0 ≤ v ∧ v ≤ 127) : -10000 ≤ x_raw S kd fg e v ∧ x_raw S kd fg e v ≤ 10000 := by
  have a1 := x_mul_rng (a := v) (b := fg + 1) (A := 127) (B := 10) (by omega) (by omega) (by omega) (by omega)
  have a2 := x_mul_rng (a := if e % 2 = 1 then -v else v) (b := e + fg) (A := 127) (B := 21) (by split <;> omega) (by split <;> omega) (by omega) (by omega)
  have a3 := x_mul_rng (a := e) (b := v) (A := 12) (B := 127) (by omega) (by omega) (by omega) (by omega)
  have a4 : -127 ≤ (if e % 2 = 1 then -v else v) ∧ (if e % 2 = 1 then -v else v) ≤ 127 := by split <;> omega
  unfold x_raw
  split
  · omega
  · split
    · omega
    · split
      · omega
      · split
        · split <;> omega
        · split <;> omega
theorem c_byKind {m : z_M} {g : z_g} {Q : q_V → q_S → Prop} {S : Nat} {kd fg e v : Int} (hm : 1 ≤ x_many S) (h6 : x_many S ≤ 6) (hE : t_E m 66 S) (h4 : m 65 4 = kd) (h5 : m 65 5 = fg) (hk : 0 ≤ kd ∧ kd ≤ 5) (hf : 0 ≤ fg ∧ fg ≤ 9) (he : 0 ≤ e ∧ e ≤ 12) (hv : 0 ≤ v ∧ v ≤ 127) (k : Q (.inl (x_raw S kd fg e v)) (z_st m g)) : z_C 58 [.inr (.inr 65), .inl e, .inl v] (z_st m g) Q := by
  subst h4; subst h5
  have hl := x_at_le (S := S) (k := x_many S - 1) (by omega)
  unfold x_raw at k
  have tail : m 65 4 = 4 → ∀ z : Int, z_C 27 [.inr (.inr 66)] (z_st m g) (fun v' S => z_T 58 35 [.inr (.inr 65), .inl e, .inl v, .inl z, .inl (v * ((m 65 5) + (1 : Int)))] (q_push v' [.inl e]) S Q) := fun h4 z => by
    rw [if_neg (by omega), if_neg (by omega), if_neg (by omega), if_pos h4] at k
    refine c_last_b h6 hE hm (y_58_35 ⟨(by unfold z_ok2; omega), fun hne => ?_, fun heq => ?_⟩)
    · rw [if_neg hne] at k; exact k
    · rw [if_pos heq] at k; exact k
  refine y_58 ⟨(by unfold z_dv; omega), (by unfold z_ok2; omega), fun ho => ⟨(by unfold z_ok; omega), fun h => ?_, fun h1 => ⟨fun h => ?_, fun h2 => ⟨fun h => ?_, fun h3 => ⟨fun h => tail h _, fun h4 => ⟨fun h => ?_, fun h5 => ?_⟩⟩⟩⟩⟩, fun ho => ⟨(by unfold z_ok; omega), fun h => ?_, fun h1 => ⟨fun h => ?_, fun h2 => ⟨fun h => ?_, fun h3 => ⟨fun h => tail h _, fun h4 => ⟨fun h => ?_, fun h5 => ?_⟩⟩⟩⟩⟩⟩
  · rw [if_pos h, if_neg ho] at k; exact k
  · rw [if_neg h1, if_pos h] at k; exact k
  · rw [if_neg h1, if_neg h2, if_pos h, if_neg ho] at k; exact k
  · rw [if_neg h1, if_neg h2, if_neg h3, if_neg h4, if_pos h] at k; exact k
  · rw [if_neg h1, if_neg h2, if_neg h3, if_neg h4, if_neg h5] at k; exact k
  · rw [if_pos h, if_pos ho] at k; exact k
  · rw [if_neg h1, if_pos h] at k; exact k
  · rw [if_neg h1, if_neg h2, if_pos h, if_pos ho] at k; exact k
  · rw [if_neg h1, if_neg h2, if_neg h3, if_neg h4, if_pos h] at k; exact k
  · rw [if_neg h1, if_neg h2, if_neg h3, if_neg h4, if_neg h5] at k; exact k
theorem c_tell {m : z_M} {g : z_g} {Q : q_V → q_S → Prop} {p : Int} {S : Nat} {kd fg v : Int} {i : Int} (hp : z_pr p) (hF : m 29 0 = p) (h6 : x_many S ≤ 6) (hE : t_E m 66 S) (h4 : m 65 4 = kd) (h5 : m 65 5 = fg) (hk : 0 ≤ kd ∧ kd ≤ 5) (hf : 0 ≤ fg ∧ fg ≤ 9) (hi0 : 0 ≤ i) (hi : i < x_many S) (hv : 0 ≤ v ∧ v ≤ 127) (k : Q q_dead (z_st (q_upd m 68 i.toNat (x_raw S kd fg (x_at S i.toNat) v % p)) g)) : z_C 57 [.inr (.inr 65), .inl i, .inl v] (z_st m g) Q := by
  have e1 := hE.1
  have hl := x_at_le (S := S) (k := i.toNat) (by omega)
  have hr := x_raw_ok (S := S) (kd := kd) hf (e := x_at S i.toNat) (by omega) hv
  exact y_57 ⟨(by unfold z_ok; omega), (fun h => absurd h (by omega)), fun _ => ⟨(by unfold z_ok2; omega), (fun h => absurd h (by omega)), fun _ => c_eat_b h6 hE hi0 hi (y_57_17 (c_byKind (by omega) h6 hE h4 h5 hk hf (by omega) hv (y_57_19 (c_mod' hp hF (by unfold z_ok; omega) (y_57_20 ⟨⟨by omega, by omega⟩, k⟩)))))⟩⟩
/-- what the class's stock (places 1 .. 14) is held to -/
def i_V (m : z_M) : Prop := (0 ≤ m 1 0 ∧ m 1 0 < 9) ∧ (0 ≤ m 1 1 ∧ m 1 1 ≤ 6) ∧ (0 ≤ m 1 3 ∧ m 1 3 ≤ 6) ∧ (0 ≤ m 1 8 ∧ m 1 8 ≤ 4) ∧ (∀ i : Nat, (i : Int) < m 1 1 → ∃ S : Nat, m 2 i = S ∧ x_V S) ∧ (∀ s : Nat, (s : Int) < m 1 3 → 0 ≤ m 3 s ∧ m 3 s < m 1 1 ∧ 0 ≤ m 4 s ∧ m 4 s ≤ 5 ∧ 0 ≤ m 5 s ∧ m 5 s ≤ 9 ∧ ∀ e : Nat, e ≤ 12 → 0 ≤ m (7 + s) e ∧ m (7 + s) e ≤ 99) ∧ ∀ i : Nat, (i : Int) < m 1 8 → 0 ≤ m 13 i ∧ m 13 i ≤ 30 ∧ 0 ≤ m 14 i ∧ m 14 i ≤ 30
def i_T (m : z_M) : Prop := m 29 0 = 0 ∨ ∃ q, t_F m q
def i_P (m : z_M) : Prop := ∀ j : Nat, j < 9 → m 1002 j = q_pr j
def i_C (m : z_M) : Prop := i_V m ∧ i_T m ∧ i_P m
theorem q_pr_pr : ∀ j, j < 9 → z_pr (q_pr j) := by
  have h : ∀ j, j < 9 → ∃ q ∈ z_prs, q_pr j = (q : Int) := by decide
  exact h
def s_p (m : z_M) : Int := q_pr (m 1 0).toNat
def s_S (m : z_M) (s : Int) : Nat := (m 2 (m 3 s.toNat).toNat).toNat
def s_N (m : z_M) (s : Int) : Nat → Int := n_at (s_p m) (s_S m s) (m 4 s.toNat) (m 5 s.toNat) (fun e => m (7 + s.toNat) e)
theorem s_p_pr {m : z_M} (h : i_V m) : z_pr (s_p m) := q_pr_pr _ (by have := h.1; omega)
theorem s_S_V {m : z_M} {s : Int} (h : i_V m) (h0 : 0 ≤ s) (h1 : s < m 1 3) : x_V (s_S m s) ∧ m 2 (m 3 s.toNat).toNat = (s_S m s : Int) ∧ 0 ≤ m 3 s.toNat ∧ m 3 s.toNat < m 1 1 := by
  obtain ⟨-, -, -, -, h5, h6, -⟩ := h
  obtain ⟨a1, a2, -⟩ := h6 s.toNat (by omega)
  obtain ⟨S, e1, e2⟩ := h5 (m 3 s.toNat).toNat (by omega)
  have e3 : s_S m s = S := by unfold s_S; rw [e1]; exact Int.toNat_natCast S
  rw [e3]
  exact ⟨e2, e1, a1, a2⟩
theorem c_modulus' {m : z_M} {g : z_g} {Q : q_V → q_S → Prop} (h : i_C m) (kk : Q (.inl (s_p m)) (z_st m g)) : z_C 50 [.inr (.inr 1)] (z_st m g) Q := by
  obtain ⟨h1, -, h3⟩ := h
  have := h1.1
  refine c_modulus this.1 this.2 ?_
  rw [h3 _ (by omega)]
  exact kk
theorem c_bitsOfSum {m : z_M} {g : z_g} {Q : q_V → q_S → Prop} {s : Int} (h : i_V m) (h0 : 0 ≤ s) (h1 : s < m 1 3) (kk : Q (.inl (s_S m s : Int)) (z_st m g)) : z_C 46 [.inr (.inr 1), .inl s] (z_st m g) Q := by
  obtain ⟨a1, a2, a3, a4⟩ := s_S_V h h0 h1
  obtain ⟨-, b2, b3, -⟩ := h
  rw [← a2] at kk
  exact y_46 ⟨(by unfold z_ok; omega), (fun h => absurd h (by omega)), fun _ => ⟨(by unfold z_ok2; omega), fun _ => ⟨⟨by omega, by omega⟩, (by unfold z_ok; omega), (fun h => absurd h (by omega)), fun _ => ⟨(by unfold z_ok2; omega), fun _ => ⟨⟨by omega, by omega⟩, kk⟩, (fun h => absurd h (by omega))⟩⟩, (fun h => absurd h (by omega))⟩⟩
theorem c_tbecome {m : z_M} {g : z_g} {Q : q_V → q_S → Prop} {S : Nat} (hS : S < 2147483648) (hm : x_many S ≤ 6) (kk : ∀ m', (∀ a j, (a < 65 ∨ 68 < a) → m' a j = m a j) → t_E m' 66 S → m' 65 4 = 0 → m' 65 5 = 0 → (∀ k, k < 6 → m' 68 k = 0) → Q q_dead (z_st m' g)) : z_C 56 [.inr (.inr 65), .inl (S : Int)] (z_st m g) Q := by
  refine y_56 (c_ebecome_b hS hm fun m' hf hE => y_56_4 (c_fillI (n := 6) (by decide) rfl (by decide) (y_56_14 (kk _ ?_ ?_ ?_ ?_ ?_))))
  · intro a j ha
    unfold f_fill q_upd
    rw [if_neg (by omega), if_neg (by omega), if_neg (by omega)]
    exact hf a j (by omega)
  · refine ⟨?_, fun k hk => ?_⟩
    · exact hE.1
    · exact hE.2 k hk
  · rfl
  · rfl
  · intro k hk
    unfold f_fill
    rw [if_pos ⟨rfl, hk⟩]
/-- a sum looked at: numbers by places -/
def t_TT (m : z_M) (p : Int) (S : Nat) (N : Nat → Int) : Prop := t_F m p ∧ t_E m 66 S ∧ ∀ k, k < x_many S → m 68 k = N (x_at S k)
theorem c_tbecomeSum {m : z_M} {g : z_g} {Q : q_V → q_S → Prop} {p s : Int} (h : i_V m) (hp : z_pr p) (hF : m 29 0 = p) (h0 : 0 ≤ s) (h1 : s < m 1 3) (kk : ∀ m', (∀ a j, (a < 65 ∨ 68 < a) → m' a j = m a j) → t_E m' 66 (s_S m s) → m' 65 4 = m 4 s.toNat → m' 65 5 = m 5 s.toNat → (∀ k, k < x_many (s_S m s) → m' 68 k = x_raw (s_S m s) (m 4 s.toNat) (m 5 s.toNat) (x_at (s_S m s) k) (m (7 + s.toNat) (x_at (s_S m s) k)) % p) → Q q_dead (z_st m' g)) : z_C 55 [.inr (.inr 65), .inr (.inr 1), .inl s] (z_st m g) Q := by
  obtain ⟨a1, a2, a3, a4⟩ := s_S_V h h0 h1
  have hV := h
  obtain ⟨-, b2, b3, -, b5, b6, -⟩ := h
  obtain ⟨c1, c2, c3, c4, c5, c6, c7⟩ := b6 s.toNat (by omega)
  obtain ⟨S, hS⟩ : ∃ S, s_S m s = S := ⟨_, rfl⟩
  rw [hS] at kk a1
  refine y_55 ⟨(by unfold z_ok; omega), (fun h => absurd h (by omega)), fun _ => ⟨(by unfold z_ok2; omega), fun _ => c_bitsOfSum hV h0 h1 (y_55_14 ?_), (fun h => absurd h (by omega))⟩⟩
  rw [hS]
  refine c_tbecome (by have := a1.1; omega) a1.2.2 fun m' hf hE h4 h5 h8 => y_55_15 ⟨⟨by omega, by omega⟩, ⟨by omega, by omega⟩, ?_⟩
  have loop : ∀ (d k : Nat) (m2 : z_M), x_many S - k = d → k ≤ x_many S → (∀ a j, (a < 65 ∨ 68 < a) → m2 a j = m a j) → t_E m2 66 S → m2 65 4 = m 4 s.toNat → m2 65 5 = m 5 s.toNat → (∀ i, i < k → m2 68 i = x_raw S (m 4 s.toNat) (m 5 s.toNat) (x_at S i) (m (7 + s.toNat) (x_at S i)) % p) → z_T 55 29 [.inr (.inr 65), .inr (.inr 1), .inl s, .inl (k : Int)] [] (z_st m2 g) Q := by
    intro d
    induction d with
    | zero =>
      intro k m2 hd hk f1 f2 f3 f4 f5
      obtain rfl : k = x_many S := by omega
      have e1 := f2.1
      have e6 := a1.2.2
      exact y_55_29 ⟨(by unfold z_ok2; omega), fun _ => kk m2 f1 f2 f3 f4 f5, (fun h => absurd h (by omega))⟩
    | succ d ih =>
      intro k m2 hd hk f1 f2 f3 f4 f5
      have e1 := f2.1
      have e6 := a1.2.2
      have hl := x_at_le (S := S) (k := k) (by omega)
      have hc := c7 (x_at S k) (by omega)
      refine y_55_29 ⟨(by unfold z_ok2; omega), (fun h => absurd h (by omega)), fun _ => ⟨z_rw6 h0 (by omega), c_eat_b e6 f2 (by omega) (by omega) (y_55_44 ⟨z_sp6 (by omega), ⟨by show (0 : Int) ≤ (x_at S k : Int); omega, by show (x_at S k : Int) < ((13 : Nat) : Int); omega⟩, ?_⟩)⟩⟩
      rw [show ((x_at S (k : Int).toNat : Nat) : Int).toNat = x_at S k from rfl, f1 (7 + s.toNat) (x_at S k) (by omega)]
      refine c_tell hp (by rw [f1 29 0 (by omega)]; exact hF) e6 f2 f3 f4 ⟨c3, c4⟩ ⟨c5, c6⟩ (by omega) (by omega) (by omega) (y_55_46 ?_)
      refine ih (k + 1) _ (by omega) (by omega) ?_ ⟨?_, ?_⟩ ?_ ?_ ?_
      · intro a j ha
        unfold q_upd
        rw [if_neg (by omega)]
        exact f1 a j ha
      · exact e1
      · intro i hi
        exact f2.2 i hi
      · exact f3
      · exact f4
      · intro i hi
        unfold q_upd
        by_cases hik : i = k
        · rw [if_pos ⟨rfl, by omega⟩, hik]; rfl
        · rw [if_neg (by omega)]
          exact f5 i (by omega)
  refine loop _ 0 _ rfl (by omega) ?_ ⟨hE.1, fun k hk => hE.2 k hk⟩ ?_ ?_ (fun i hi => by omega)
  · intro a j ha
    unfold q_upd
    rw [if_neg (by omega), if_neg (by omega)]
    exact hf a j ha
  · show m' 4 s.toNat = m 4 s.toNat
    exact hf _ _ (by omega)
  · show m' 5 s.toNat = m 5 s.toNat
    exact hf _ _ (by omega)
theorem c_lookAt {m : z_M} {g : z_g} {Q : q_V → q_S → Prop} {s : Int} (h : i_C m) (h0 : 0 ≤ s) (h1 : s < m 1 3) (kk : ∀ m', (∀ a j, (a < 29 ∨ 68 < a) → m' a j = m a j) → t_TT m' (s_p m) (s_S m s) (s_N m s) → m' 65 4 = m 4 s.toNat → m' 65 5 = m 5 s.toNat → Q q_dead (z_st m' g)) : z_C 49 [.inr (.inr 0), .inl s] (z_st m g) Q := by
  obtain ⟨hV, hT, hP⟩ := h
  have hp := s_p_pr hV
  refine y_49 (c_modulus' ⟨hV, hT, hP⟩ (y_49_5 (c_fbecome hp hT fun m1 f1 hF => y_49_6 ?_)))
  have hV1 : i_V m1 := by
    have e : ∀ a j, a < 29 → m1 a j = m a j := fun a j ha => f1 a j (by omega)
    unfold i_V at hV ⊢
    rw [e 1 0 (by omega), e 1 1 (by omega), e 1 3 (by omega), e 1 8 (by omega)]
    obtain ⟨g1, g2, g3, g4, g5, g6, g7⟩ := hV
    refine ⟨g1, g2, g3, g4, fun i hi => ?_, fun t ht => ?_, fun i hi => ?_⟩
    · rw [e 2 i (by omega)]; exact g5 i hi
    · rw [e 3 t (by omega), e 4 t (by omega), e 5 t (by omega)]
      obtain ⟨k1, k2, k3, k4, k5, k6, k7⟩ := g6 t ht
      refine ⟨k1, k2, k3, k4, k5, k6, fun i hi => ?_⟩
      rw [e (7 + t) i (by omega)]; exact k7 i hi
    · rw [e 13 i (by omega), e 14 i (by omega)]; exact g7 i hi
  have hS : s_S m1 s = s_S m s := by unfold s_S; rw [f1 3 _ (by omega), f1 2 _ (by omega)]
  refine c_tbecomeSum hV1 hp hF.2.1 h0 (by rw [f1 1 3 (by omega)]; exact h1) fun m2 f2 hE h4 h5 h8 => y_49_12 (kk m2 ?_ ⟨⟨hp, ?_, ?_, ?_⟩, ?_, ?_⟩ ?_ ?_)
  · intro a j ha
    rw [f2 a j (by omega), f1 a j (by omega)]
  · rw [f2 29 0 (by omega)]; exact hF.2.1
  · intro x e hx he
    have := z_pr_le hp
    rw [f2 (31 + x) e (by omega)]; exact hF.2.2.1 x e hx he
  · intro x hx
    rw [f2 62 x (by omega)]; exact hF.2.2.2 x hx
  · rw [← hS]; exact hE
  · intro k hk
    rw [← hS] at hk
    rw [h8 k hk, hS, f1 4 _ (by omega), f1 5 _ (by omega)]
    unfold s_N
    rw [hS] at hk
    rw [n_at_at hk]
    have hs6 : s.toNat < 6 := by have := hV.2.2.1; omega
    rw [f1 (7 + s.toNat) _ (by omega)]
  · rw [h4, f1 4 _ (by omega)]
  · rw [h5, f1 5 _ (by omega)]
