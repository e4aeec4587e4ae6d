/-! READING A TEXT: what its clauses are; the class's side -/
def pa_T (n : Int) (tx : Nat → Int) (i : Nat) : Int := if (i : Int) < n then tx i else -1
def pa_sg (c : Int) : Int := if 48 ≤ c ∧ c ≤ 57 then c - 48 else if 97 ≤ c ∧ c ≤ 99 then c - 97 + 10 else -1
def pa_dg (c : Int) : Bool := decide (48 ≤ c ∧ c ≤ 57)
def pa_si (c : Int) : Bool := decide (0 ≤ pa_sg c)
theorem pa_sg_rng {c : Int} : -1 ≤ pa_sg c ∧ pa_sg c ≤ 12 := by unfold pa_sg; split <;> (try split) <;> omega
theorem pa_sg_dg {c : Int} (h : pa_dg c = true) : pa_sg c = c - 48 ∧ 0 ≤ pa_sg c ∧ pa_sg c ≤ 9 := by
  have h := of_decide_eq_true h
  unfold pa_sg
  rw [if_pos h]
  omega
theorem pa_dg_sg {c : Int} : pa_dg c = true ↔ 0 ≤ pa_sg c ∧ pa_sg c ≤ 9 := by
  constructor
  · exact fun h => (pa_sg_dg h).2
  · intro h
    unfold pa_sg at h
    refine decide_eq_true ?_
    by_cases c1 : 48 ≤ c ∧ c ≤ 57
    · exact c1
    · rw [if_neg c1] at h
      split at h <;> omega
theorem pa_dg_si {c : Int} (h : pa_dg c = true) : pa_si c = true := decide_eq_true (pa_sg_dg h).2.1
/-- the class's text -/
def pa_X (m : z_M) (n : Int) (tx : Nat → Int) : Prop := m 121 1 = n ∧ 0 ≤ n ∧ n ≤ 80 ∧ ∀ i : Nat, (i : Int) < n → m 122 i = tx i ∧ 0 ≤ tx i ∧ tx i ≤ 127
theorem pa_T_rng {m : z_M} {n : Int} {tx : Nat → Int} {i : Nat} (h : pa_X m n tx) : -1 ≤ pa_T n tx i ∧ pa_T n tx i ≤ 127 := by
  unfold pa_T
  split
  · have := (h.2.2.2 i (by assumption)).2; omega
  · omega
theorem pa_X_of {m m' : z_M} {n : Int} {tx : Nat → Int} (h : pa_X m n tx) (f1 : m' 121 1 = m 121 1) (f2 : ∀ j, m' 122 j = m 122 j) : pa_X m' n tx := ⟨by rw [f1]; exact h.1, h.2.1, h.2.2.1, fun i hi => by rw [f2]; exact h.2.2.2 i hi⟩
theorem c_letterAt {m : z_M} {g : z_g} {Q : q_V → q_S → Prop} {n : Int} {tx : Nat → Int} {k : Nat} {ki : Int} (h : pa_X m n tx) (hk : ki = (k : Int)) (k200 : k < 200) (kk : Q (.inl (pa_T n tx k)) (z_st m g)) : z_C 144 [.inr (.inr 121), .inl ki] (z_st m g) Q := by
  subst hk
  obtain ⟨h1, h2, h3, h4⟩ := h
  unfold pa_T at kk
  refine y_144 ⟨(by unfold z_ok; omega), (fun h => absurd h (by omega)), fun _ => ?_⟩
  rw [h1]
  refine ⟨(by unfold z_ok2; omega), fun hlt => ⟨⟨by omega, by omega⟩, ?_⟩, fun hge => ?_⟩
  · rw [if_pos hlt] at kk
    rw [show ((k : Int)).toNat = k by omega, (h4 k hlt).1]
    exact kk
  · rw [if_neg (by omega)] at kk
    exact kk
theorem c_signAt {m : z_M} {g : z_g} {Q : q_V → q_S → Prop} {n : Int} {tx : Nat → Int} {k : Nat} {ki : Int} (h : pa_X m n tx) (hk : ki = (k : Int)) (k200 : k < 200) (kk : Q (.inl (pa_sg (pa_T n tx k))) (z_st m g)) : z_C 147 [.inr (.inr 121), .inl ki] (z_st m g) Q := by
  have hr := pa_T_rng (i := k) h
  refine y_147 (c_letterAt h hk k200 (y_147_3 ?_))
  generalize pa_T n tx k = c at hr kk
  unfold pa_sg at kk
  refine ⟨(by unfold z_ok2; omega), fun h1 => ?_, fun h1 => ⟨(by unfold z_ok2; omega), fun h2 => ⟨(by unfold z_ok2; omega), fun h3 => ?_, fun h3 => ⟨(by unfold z_ok2; omega), fun h4 => ?_, fun h4 => ?_⟩⟩, fun h2 => ?_⟩⟩
  · rw [if_neg (by omega), if_neg (by omega)] at kk
    exact ⟨(by unfold z_ok2; omega), fun _ => kk, fun h => absurd h (by omega)⟩
  · rw [if_neg (by omega), if_neg (by omega)] at kk
    exact kk
  · rw [if_neg (by omega), if_neg (by omega)] at kk
    exact kk
  · rw [if_neg (by omega), if_pos ⟨by omega, by omega⟩] at kk
    exact kk
  · rw [if_pos ⟨h1, h2⟩] at kk
    exact kk
theorem c_isDigitAt {m : z_M} {g : z_g} {Q : q_V → q_S → Prop} {n : Int} {tx : Nat → Int} {k : Nat} {ki : Int} (h : pa_X m n tx) (hk : ki = (k : Int)) (k200 : k < 200) (k1 : pa_dg (pa_T n tx k) = true → Q (.inl 1) (z_st m g)) (k0 : ¬ pa_dg (pa_T n tx k) = true → Q (.inl 0) (z_st m g)) : z_C 148 [.inr (.inr 121), .inl ki] (z_st m g) Q := by
  have hr := pa_sg_rng (c := pa_T n tx k)
  refine y_148 (c_signAt h hk k200 (y_148_3 ⟨(by unfold z_ok; omega), fun h1 => k0 (fun hh => by have := pa_dg_sg.1 hh; omega), fun h1 => ⟨(by unfold z_ok2; omega), fun h2 => k0 (fun hh => by have := pa_dg_sg.1 hh; omega), fun h2 => k1 (pa_dg_sg.2 ⟨h1, h2⟩)⟩⟩))
def pa_go (n : Int) (tx : Nat → Int) (s i : Nat) : Bool := if pa_T n tx s = 97 ∨ (pa_T n tx s = 110 ∧ i = s + 2) then pa_si (pa_T n tx i) else pa_dg (pa_T n tx i)
theorem c_goesOnAt {m : z_M} {g : z_g} {Q : q_V → q_S → Prop} {n : Int} {tx : Nat → Int} {s i : Nat} {si ii : Int} (h : pa_X m n tx) (es : si = (s : Int)) (ei : ii = (i : Int)) (hsi : s < i) (s200 : i < 200) (k1 : pa_go n tx s i = true → Q (.inl 1) (z_st m g)) (k0 : ¬ pa_go n tx s i = true → Q (.inl 0) (z_st m g)) : z_C 146 [.inr (.inr 121), .inl si, .inl ii] (z_st m g) Q := by
  have hr := pa_T_rng (i := s) h
  unfold pa_go at k1 k0
  have dig : ∀ a3 : Int, (pa_dg (pa_T n tx i) = true → Q (.inl 1) (z_st m g)) → (¬ pa_dg (pa_T n tx i) = true → Q (.inl 0) (z_st m g)) → z_C 148 [.inr (.inr 121), .inl ii] (z_st m g) (fun v S => z_T 146 37 [.inr (.inr 121), .inl si, .inl ii, .inl a3] (q_push v []) S Q) := fun a3 q1 q0 => c_isDigitAt h ei s200 (fun hd => y_146_37 ⟨Or.inr rfl, q1 hd⟩) (fun hd => y_146_37 ⟨Or.inl rfl, q0 hd⟩)
  have sig : ∀ a3 : Int, (pa_si (pa_T n tx i) = true → Q (.inl 1) (z_st m g)) → (¬ pa_si (pa_T n tx i) = true → Q (.inl 0) (z_st m g)) → z_C 147 [.inr (.inr 121), .inl ii] (z_st m g) (fun v S => z_T 146 29 [.inr (.inr 121), .inl si, .inl ii, .inl a3] (q_push v []) S Q) := fun a3 q1 q0 => by
    have hsr := pa_sg_rng (c := pa_T n tx i)
    exact c_signAt h ei s200 (y_146_29 ⟨(by unfold z_ok; omega), fun h1 => y_146_37 ⟨Or.inl rfl, q0 (fun hh => by have := of_decide_eq_true hh; omega)⟩, fun h1 => y_146_37 ⟨Or.inr rfl, q1 (decide_eq_true h1)⟩⟩)
  refine y_146 ⟨(by unfold z_ok2; omega), fun _ => c_letterAt h es (by omega) (y_146_8 ⟨(by unfold z_ok2; omega), fun h97 => ⟨(by unfold z_ok; omega), fun h => absurd h (by decide), fun _ => ?_⟩, fun h97 => c_letterAt h es (by omega) (y_146_13 ⟨(by unfold z_ok2; omega), fun h110 => ⟨(by unfold z_ok; omega), fun _ => ?_, fun h => absurd rfl h⟩, fun h110 => ⟨(by unfold z_ok2; omega), fun hi => ⟨(by unfold z_ok; omega), fun _ => ?_, fun h => absurd rfl h⟩, fun hi => ⟨(by unfold z_ok; omega), fun h => absurd h (by decide), fun _ => ?_⟩⟩⟩)⟩), (fun h => absurd h (by omega))⟩
  · rw [if_pos (Or.inl h97)] at k1 k0
    exact sig 1 k1 k0
  · rw [if_neg (by omega)] at k1 k0
    exact dig 0 k1 k0
  · rw [if_neg (by omega)] at k1 k0
    exact dig 0 k1 k0
  · rw [if_pos (by omega)] at k1 k0
    exact sig 1 k1 k0
theorem c_behind {m : z_M} {g : z_g} {Q : q_V → q_S → Prop} {n : Int} {tx : Nat → Int} {a d : Nat} {ai bi : Int} (h : pa_X m n tx) (ea : ai = (a : Int)) (eb : bi = ((a + d : Nat) : Int)) (a200 : a + d < 200) (kk : Q (.inl ((x_fst (fun i => !pa_si (pa_T n tx i)) d a : Nat) : Int)) (z_st m g)) : z_C 149 [.inr (.inr 121), .inl ai, .inl bi] (z_st m g) Q := by
  have loop : ∀ (e k : Nat) (ki : Int), e ≤ d → ki = (k : Int) → k + e = a + d → x_fst (fun i => !pa_si (pa_T n tx i)) d a = x_fst (fun i => !pa_si (pa_T n tx i)) e k → z_T 149 2 [.inr (.inr 121), .inl ai, .inl bi, .inl ki] [] (z_st m g) Q := by
    intro e
    induction e with
    | zero =>
      intro k ki he hki hk hx
      subst hki
      refine y_149_2 ⟨(by unfold z_ok2; omega), fun _ => ?_, (fun h => absurd h (by omega))⟩
      have : x_fst (fun i => !pa_si (pa_T n tx i)) 0 k = k := rfl
      rw [hx, this] at kk
      exact kk
    | succ e ih =>
      intro k ki he hki hk hx
      subst hki
      rw [x_fst_s] at hx
      have hsr := pa_sg_rng (c := pa_T n tx k)
      refine y_149_2 ⟨(by unfold z_ok2; omega), (fun h => absurd h (by omega)), fun _ => c_signAt h rfl (by omega) (y_149_8 ⟨(by unfold z_ok; omega), fun h1 => ?_, fun h1 => ?_⟩)⟩
      · have hb : pa_si (pa_T n tx k) = false := decide_eq_false (by omega)
        rw [hb, if_pos (by decide)] at hx
        rw [hx] at kk
        exact kk
      · have hb : pa_si (pa_T n tx k) = true := decide_eq_true h1
        rw [hb, if_neg (by decide)] at hx
        exact ih (k + 1) ((k : Int) + 1) (by omega) (by omega) (by omega) hx
  exact y_149 (loop d a ai (Nat.le_refl _) ea rfl rfl)
def pa_len (c : Int) : Nat := if c = 97 then 3 else if c = 110 then 5 else if c = 112 then 2 else if c = 115 then 4 else 0
theorem c_lengthOf {m : z_M} {g : z_g} {Q : q_V → q_S → Prop} {c : Int} (hc : z_ok c) (kk : Q (.inl (pa_len c : Int)) (z_st m g)) : z_C 145 [.inl c] (z_st m g) Q := by
  unfold pa_len at kk
  refine y_145 ⟨hc, fun h => ?_, fun h => ⟨fun h2 => ?_, fun h2 => ⟨fun h3 => ?_, fun h3 => ⟨fun h4 => ?_, fun h4 => ?_⟩⟩⟩⟩
  · rw [if_pos h] at kk; exact kk
  · rw [if_neg h, if_pos h2] at kk; exact kk
  · rw [if_neg h, if_neg h2, if_pos h3] at kk; exact kk
  · rw [if_neg h, if_neg h2, if_neg h3, if_pos h4] at kk; exact kk
  · rw [if_neg h, if_neg h2, if_neg h3, if_neg h4] at kk; exact kk
theorem pa_len_le {c : Int} : pa_len c ≤ 5 := by unfold pa_len; split <;> (try split) <;> (try split) <;> (try split) <;> omega
/-- where a clause from s on stops; where it ends -/
def pa_stop (n : Int) (tx : Nat → Int) (s : Nat) : Nat := if pa_len (pa_T n tx s) = 0 then s else x_fst (fun i => !pa_go n tx s i) (pa_len (pa_T n tx s) - 1) (s + 1)
def pa_fin (n : Int) (tx : Nat → Int) (s : Nat) : Nat := if pa_T n tx s = 97 then x_fst (fun i => !pa_si (pa_T n tx i)) 4 (s + 3) else s + pa_len (pa_T n tx s)
def pa_good (n : Int) (tx : Nat → Int) (s : Nat) : Prop := ¬ pa_len (pa_T n tx s) = 0 ∧ pa_stop n tx s = s + pa_len (pa_T n tx s)
def pa_parse (n : Int) (tx : Nat → Int) : Nat → Nat → List (Nat × Nat) × Int
  | 0, s => ([], (s : Int))
  | f + 1, s => if pa_len (pa_T n tx s) = 0 ∨ pa_stop n tx s < s + pa_len (pa_T n tx s) then ([], (pa_stop n tx s : Int)) else if (pa_fin n tx s : Int) = n then ([(s, pa_fin n tx s)], -1) else if ¬ pa_T n tx (pa_fin n tx s) = 59 ∨ f = 0 then ([(s, pa_fin n tx s)], (pa_fin n tx s : Int)) else ((s, pa_fin n tx s) :: (pa_parse n tx f (pa_fin n tx s + 1)).1, (pa_parse n tx f (pa_fin n tx s + 1)).2)
theorem pa_stop_le {n : Int} {tx : Nat → Int} {s : Nat} : s ≤ pa_stop n tx s ∧ pa_stop n tx s ≤ s + pa_len (pa_T n tx s) := by
  unfold pa_stop
  split
  · omega
  · have := x_fst_rng (fun i => !pa_go n tx s i) (pa_len (pa_T n tx s) - 1) (s + 1)
    omega
theorem pa_fin_le {n : Int} {tx : Nat → Int} {s : Nat} : s ≤ pa_fin n tx s ∧ pa_fin n tx s ≤ s + 7 := by
  have := pa_len_le (c := pa_T n tx s)
  unfold pa_fin
  split
  · have := x_fst_rng (fun i => !pa_si (pa_T n tx i)) 4 (s + 3)
    omega
  · omega
theorem pa_T_lt {m : z_M} {n : Int} {tx : Nat → Int} {i : Nat} (h : ¬ pa_T n tx i = -1) : (i : Int) < n := by
  unfold pa_T at h
  by_cases h1 : (i : Int) < n
  · exact h1
  · rw [if_neg h1] at h; exact absurd rfl h
theorem pa_parse_rng {n : Int} {tx : Nat → Int} : ∀ f s, (pa_parse n tx f s).2 = -1 ∨ 0 ≤ (pa_parse n tx f s).2
  | 0, s => Or.inr (by show (0 : Int) ≤ (s : Int); omega)
  | f + 1, s => by
    unfold pa_parse
    split
    · exact Or.inr (by show (0 : Int) ≤ (pa_stop n tx s : Int); omega)
    · split
      · exact Or.inl rfl
      · split
        · exact Or.inr (by show (0 : Int) ≤ (pa_fin n tx s : Int); omega)
        · exact pa_parse_rng f _
/-- the class finds where a clause stops -/
theorem c_stop {m : z_M} {g : z_g} {Q : q_V → q_S → Prop} {n : Int} {tx : Nat → Int} {s : Nat} (h : pa_X m n tx) (s100 : s ≤ 100) (kf : pa_len (pa_T n tx s) = 0 ∨ pa_stop n tx s < s + pa_len (pa_T n tx s) → Q (.inl (pa_stop n tx s : Int)) (z_st m g)) (ko : ¬ pa_len (pa_T n tx s) = 0 → pa_stop n tx s = s + pa_len (pa_T n tx s) → z_C 144 [.inr (.inr 121), .inl (s : Int)] (z_st m g) (fun v S => z_T 143 40 [.inr (.inr 121), .inl (s : Int), .inl (pa_len (pa_T n tx s) : Int), .inl (pa_stop n tx s : Int)] (q_push v []) S Q)) : z_T 143 16 [.inr (.inr 121), .inl (s : Int), .inl (pa_len (pa_T n tx s) : Int), .inl (s : Int)] [] (z_st m g) Q := by
  have hl5 := pa_len_le (c := pa_T n tx s)
  have hst := pa_stop_le (n := n) (tx := tx) (s := s)
  have exit : ∀ (e : Nat) (ei : Int), ei = (e : Int) → e = pa_stop n tx s → (z_ok (pa_len (pa_T n tx s) : Int) ∧
      ((pa_len (pa_T n tx s) : Int) = (0 : Int) →
        Q (.inl ei) (z_st m g)) ∧
      (¬ (pa_len (pa_T n tx s) : Int) = (0 : Int) →
        z_ok2 ei ((s : Int) + (pa_len (pa_T n tx s) : Int)) ∧
        (((s : Int) + (pa_len (pa_T n tx s) : Int)) ≤ ei →
          z_C 144 [.inr (.inr 121), .inl (s : Int)] (z_st m g) (fun v S => z_T 143 40 [.inr (.inr 121), .inl (s : Int), .inl (pa_len (pa_T n tx s) : Int), .inl ei] (q_push v []) S Q)) ∧
        (ei < ((s : Int) + (pa_len (pa_T n tx s) : Int)) →
          Q (.inl ei) (z_st m g)))) := by
    intro e ei hei he
    subst hei
    subst he
    exact ⟨(by unfold z_ok; omega), fun h0 => kf (Or.inl (by omega)), fun h0 => ⟨(by unfold z_ok2; omega), fun h1 => ko (by omega) (by omega), fun h1 => kf (Or.inr (by omega))⟩⟩
  by_cases hl0 : pa_len (pa_T n tx s) = 0
  · refine y_143_16 ⟨(by unfold z_ok2; omega), fun _ => exit s _ rfl ?_, fun h => absurd h (by omega)⟩
    unfold pa_stop
    rw [if_pos hl0]
  · have loop : ∀ (d e : Nat) (ei : Int), ei = (e : Int) → s < e → e + d = s + pa_len (pa_T n tx s) → pa_stop n tx s = x_fst (fun i => !pa_go n tx s i) d e → z_T 143 16 [.inr (.inr 121), .inl (s : Int), .inl (pa_len (pa_T n tx s) : Int), .inl ei] [] (z_st m g) Q := by
      intro d
      induction d with
      | zero =>
        intro e ei hei hse he hx
        subst hei
        exact y_143_16 ⟨(by unfold z_ok2; omega), fun _ => exit e _ rfl hx.symm, fun h => absurd h (by omega)⟩
      | succ d ih =>
        intro e ei hei hse he hx
        subst hei
        rw [x_fst_s] at hx
        refine y_143_16 ⟨(by unfold z_ok2; omega), (fun h => absurd h (by omega)), fun _ => c_goesOnAt h rfl rfl hse (by omega) (fun hy => y_143_25 ⟨(by unfold z_ok; omega), (fun h => absurd h (by omega)), fun _ => ?_⟩) (fun hn => y_143_25 ⟨(by unfold z_ok; omega), fun _ => ?_, (fun h => absurd h (by omega))⟩)⟩
        · rw [hy, if_neg (by decide)] at hx
          exact ih (e + 1) _ (by omega) (by omega) (by omega) hx
        · have hf : pa_go n tx s e = false := by
            cases hb : pa_go n tx s e with
            | false => rfl
            | true => exact absurd hb hn
          rw [hf, if_pos (by decide)] at hx
          exact exit e _ rfl hx.symm
    refine y_143_16 ⟨(by unfold z_ok2; omega), fun h => absurd h (by omega), fun _ => y_146 ⟨(by unfold z_ok2; omega), (fun h => absurd h (by omega)), fun _ => y_143_25 ⟨(by unfold z_ok; omega), (fun h => absurd h (by omega)), fun _ => loop (pa_len (pa_T n tx s) - 1) (s + 1) _ rfl (by omega) (by omega) ?_⟩⟩⟩
    unfold pa_stop
    rw [if_neg hl0]
def pa_rows (m : z_M) (l : List (Nat × Nat)) : Prop := ∀ (i a b : Nat), l[i]? = some (a, b) → m 123 i = (a : Int) ∧ m 124 i = (b : Int)
def pa_cf (m m' : z_M) : Prop := ∀ a j, ¬ a = 123 → ¬ a = 124 → ¬ (a = 121 ∧ j = 2) → m' a j = m a j
theorem c_fault {m : z_M} {g : z_g} {Q : q_V → q_S → Prop} {n : Int} {tx : Nat → Int} (h : pa_X m n tx) (kk : ∀ m', pa_cf m m' → ((pa_parse n tx 10 0).2 = -1 → m' 121 2 = ((pa_parse n tx 10 0).1.length : Int) ∧ (pa_parse n tx 10 0).1.length ≤ 10 ∧ pa_rows m' (pa_parse n tx 10 0).1) → Q (.inl (pa_parse n tx 10 0).2) (z_st m' g)) : z_C 143 [.inr (.inr 121)] (z_st m g) Q := by
  have n80 := h.2.2.1
  generalize hPR : pa_parse n tx 10 0 = PR at kk
  have loop : ∀ (f c s : Nat) (m1 : z_M) (l : List (Nat × Nat)) (d2 d3 : q_V), c + f = 10 → 1 ≤ f → (s : Int) ≤ n → l.length = c → m1 121 2 = (c : Int) → pa_cf m m1 → pa_rows m1 l → l ++ (pa_parse n tx f s).1 = PR.1 → (pa_parse n tx f s).2 = PR.2 → z_T 143 5 [.inr (.inr 121), .inl (s : Int), d2, d3] [] (z_st m1 g) Q := by
    intro f
    induction f with
    | zero => intro c s m1 l d2 d3 hc h1; exact absurd h1 (by omega)
    | succ f ih =>
      intro c s m1 l d2 d3 hc h1 hs hl he hf hrow hP1 hP2
      have hX : pa_X m1 n tx := pa_X_of h (hf 121 1 (by omega) (by omega) (by omega)) (fun j => hf 122 j (by omega) (by omega) (by omega))
      have hTr := pa_T_rng (i := s) hX
      have hst := pa_stop_le (n := n) (tx := tx) (s := s)
      have hfl := pa_fin_le (n := n) (tx := tx) (s := s)
      have hl5 := pa_len_le (c := pa_T n tx s)
      unfold pa_parse at hP1 hP2
      -- the clause is there
      have good : ¬ (pa_len (pa_T n tx s) = 0 ∨ pa_stop n tx s < s + pa_len (pa_T n tx s)) → ∀ (a3 : Int), (z_in (m1 121 2) 10 ∧
          z_in (m1 121 2) 10 ∧
          z_ok2 (pa_fin n tx s : Int) (m1 121 1) ∧
          (¬ (pa_fin n tx s : Int) = (m1 121 1) →
            z_C 144 [.inr (.inr 121), .inl (pa_fin n tx s : Int)] (z_st (q_upd (q_upd m1 123 ((m1 121 2).toNat) (s : Int)) 124 ((m1 121 2).toNat) (pa_fin n tx s : Int)) g) (fun v S => z_T 143 78 [.inr (.inr 121), .inl (s : Int), .inl a3, .inl (pa_fin n tx s : Int)] (q_push v []) S Q)) ∧
          ((pa_fin n tx s : Int) = (m1 121 1) →
            Q (.inl (-1 : Int)) (z_st (q_upd (q_upd (q_upd m1 123 ((m1 121 2).toNat) (s : Int)) 124 ((m1 121 2).toNat) (pa_fin n tx s : Int)) 121 2 ((m1 121 2) + (1 : Int))) g))) := by
        intro hgood a3
        rw [if_neg hgood] at hP1 hP2
        rw [he, show ((c : Int)).toNat = c by omega, hX.1]
        have F2 : pa_cf m (q_upd (q_upd m1 123 c (s : Int)) 124 c (pa_fin n tx s : Int)) := fun a j q1 q2 q3 => by rw [z_un (by omega), z_un (by omega)]; exact hf a j q1 q2 q3
        have R2 : pa_rows (q_upd (q_upd m1 123 c (s : Int)) 124 c (pa_fin n tx s : Int)) (l ++ [(s, pa_fin n tx s)]) := by
          intro i a b hi
          by_cases hic : i < l.length
          · rw [List.getElem?_append_left hic] at hi
            have := hrow i a b hi
            refine ⟨?_, ?_⟩
            · rw [z_un (by omega), z_un (by omega)]; exact this.1
            · rw [z_un (by omega), z_un (by omega)]; exact this.2
          · rw [List.getElem?_append_right (by omega)] at hi
            have hi0 : i - l.length = 0 := by
              by_cases h0 : i - l.length = 0
              · exact h0
              · rw [List.getElem?_eq_none (by simp; omega)] at hi; cases hi
            rw [hi0] at hi
            cases hi
            refine ⟨?_, ?_⟩
            · rw [z_un (by omega), z_ue rfl (by omega)]
            · rw [z_ue rfl (by omega)]
        refine ⟨⟨by omega, by omega⟩, ⟨by omega, by omega⟩, (by unfold z_ok2; omega), fun hne => ?_, fun heq => ?_⟩
        · rw [if_neg hne] at hP1 hP2
          have hX2 : pa_X (q_upd (q_upd m1 123 c (s : Int)) 124 c (pa_fin n tx s : Int)) n tx := pa_X_of h (F2 121 1 (by omega) (by omega) (by omega)) (fun j => F2 122 j (by omega) (by omega) (by omega))
          have hTr2 := pa_T_rng (i := pa_fin n tx s) hX2
          have e2 : (q_upd (q_upd m1 123 c (s : Int)) 124 c (pa_fin n tx s : Int)) 121 2 = (c : Int) := by rw [z_un (by omega), z_un (by omega)]; exact he
          generalize q_upd (q_upd m1 123 c (s : Int)) 124 c (pa_fin n tx s : Int) = m2 at F2 R2 hX2 e2
          refine c_letterAt hX2 rfl (by omega) (y_143_78 ?_)
          rw [e2]
          refine ⟨(by unfold z_ok2; omega), fun h59 => ?_, fun h59 => ⟨(by unfold z_ok2; omega), fun h9 => ?_, fun h9 => ?_⟩⟩
          · rw [if_pos (Or.inl h59)] at hP1 hP2
            have hv : PR.2 = (pa_fin n tx s : Int) := hP2.symm
            have := kk m2 F2 (fun hh => absurd (hv.symm.trans hh) (by omega))
            rw [hv] at this
            exact this
          · rw [if_neg (by omega)] at hP1 hP2
            have hlt := pa_T_lt (m := m) (n := n) (tx := tx) (i := pa_fin n tx s) (by omega)
            have e3 : ((pa_fin n tx s : Int) + 1) = ((pa_fin n tx s + 1 : Nat) : Int) := by omega
            rw [e3]
            refine ih (c + 1) (pa_fin n tx s + 1) _ (l ++ [(s, pa_fin n tx s)]) _ _ (by omega) (by omega) (by omega) (by rw [List.length_append, hl]; rfl) (by rw [z_ue rfl rfl]; omega) (fun a j q1 q2 q3 => by rw [z_un (by omega)]; exact F2 a j q1 q2 q3) (fun i a b hi => by rw [z_un (by omega), z_un (by omega)]; exact R2 i a b hi) ?_ hP2
            rw [← hP1, List.append_assoc]
            rfl
          · rw [if_pos (Or.inr (by omega))] at hP1 hP2
            have hv : PR.2 = (pa_fin n tx s : Int) := hP2.symm
            have := kk m2 F2 (fun hh => absurd (hv.symm.trans hh) (by omega))
            rw [hv] at this
            exact this
        · rw [if_pos heq] at hP1 hP2
          have hv : PR.2 = -1 := hP2.symm
          have hL : PR.1 = l ++ [(s, pa_fin n tx s)] := hP1.symm
          rw [← hv]
          refine kk _ (fun a j q1 q2 q3 => by rw [z_un (by omega)]; exact F2 a j q1 q2 q3) (fun _ => ?_)
          rw [hL, List.length_append, hl]
          refine ⟨by rw [z_ue rfl rfl]; rfl, by show c + 1 ≤ 10; omega, fun i a b hi => ?_⟩
          rw [z_un (by omega), z_un (by omega)]
          exact R2 i a b hi
      refine y_143_5 ?_
      rw [he]
      refine ⟨(by unfold z_ok2; omega), (fun h => absurd h (by omega)), fun _ => c_letterAt hX rfl (by omega) (y_143_12 (c_lengthOf (by unfold z_ok; omega) (y_143_13 (c_stop hX (by omega) (fun hbad => ?_) (fun hl0 hstop => ?_)))))⟩
      · rw [if_pos hbad] at hP2
        have hv : PR.2 = (pa_stop n tx s : Int) := hP2.symm
        have := kk m1 hf (fun hh => absurd (hv.symm.trans hh) (by omega))
        rw [hv] at this
        exact this
      · have hgood : ¬ (pa_len (pa_T n tx s) = 0 ∨ pa_stop n tx s < s + pa_len (pa_T n tx s)) := by omega
        refine c_letterAt hX rfl (by omega) (y_143_40 ⟨(by unfold z_ok2; omega), fun h97 => ?_, fun h97 => ?_⟩)
        · have ef : pa_stop n tx s = pa_fin n tx s := by unfold pa_fin; rw [if_neg h97]; exact hstop
          rw [ef]
          exact good hgood _
        · have ef : pa_fin n tx s = x_fst (fun i => !pa_si (pa_T n tx i)) 4 (s + 3) := by unfold pa_fin; rw [if_pos h97]
          have e3 : pa_len (pa_T n tx s) = 3 := by rw [h97]; rfl
          refine c_behind (d := 4) (a := s + 3) hX (by omega) (by omega) (by omega) (y_143_50 ?_)
          rw [← ef]
          exact good hgood _
  refine y_143 (loop 10 0 0 _ [] _ _ rfl (by omega) h.2.1 rfl (z_ue rfl rfl) (fun a j q1 q2 q3 => z_un (by omega)) (fun i a b hi => by rw [List.getElem?_nil] at hi; cases hi) (by rw [hPR]; rfl) (by rw [hPR]))
