/-! CONTRACTS of the class: exponents -/
theorem c_addSupport {m : z_M} {g : z_g} {Q : q_V → q_S → Prop} {a : Int} (h1 : 0 ≤ m 1 1) (h2 : m 1 1 < 6) (k : Q (.inl (m 1 1)) (z_st (q_upd (q_upd m 2 (m 1 1).toNat a) 1 1 (m 1 1 + 1)) g)) : z_C 22 [.inr (.inr 1), .inl a] (z_st m g) Q :=
  y_22 ⟨(by unfold z_ok2; omega), fun _ => ⟨⟨by omega, by omega⟩, by rw [Int.add_sub_cancel]; exact k⟩, (fun h => absurd h (by omega))⟩
def t_E (m : z_M) (o S : Nat) : Prop := m o 1 = (x_many S : Int) ∧ ∀ k, k < x_many S → m (o + 1) k = (x_at S k : Int)
theorem c_ebecome_a {m : z_M} {g : z_g} {Q : q_V → q_S → Prop} {S : Nat} (hS : S < 2147483648) (hm : x_many S ≤ 6) (kk : ∀ m', (∀ a j, (a < 63 ∨ 64 < a) → m' a j = m a j) → t_E m' 63 S → Q q_dead (z_st m' g)) : z_C 25 [.inr (.inr 63), .inl (S : Int)] (z_st m g) Q := by
  have loop : ∀ (d e : Nat) (m' : z_M), 13 - e = d → e ≤ 13 → (∀ a j, (a < 63 ∨ 64 < a) → m' a j = m a j) → m' 63 1 = ((x_pre S e).length : Int) → (∀ k, k < (x_pre S e).length → m' 64 k = ((x_pre S e).getD k 0 : Int)) → z_T 25 5 [.inr (.inr 63), .inl (S : Int), .inl (e : Int)] [] (z_st m' g) Q := by
    intro d
    induction d with
    | zero =>
      intro e m' hd he hf h1 h2
      obtain rfl : e = 13 := by omega
      exact y_25a_5 ⟨(by unfold z_ok2; omega), fun _ => kk m' hf ⟨h1, h2⟩, (fun h => absurd h (by omega))⟩
    | succ d ih =>
      intro e m' hd he hf h1 h2
      have hb := q_b_bit (a := S) (e := e) hS (by omega)
      have hl := x_pre_len (S := S) (show e ≤ 13 by omega)
      have hl2 : (x_pre S 13).length ≤ 6 := hm
      refine y_25a_5 ⟨(by unfold z_ok2; omega), (fun h => absurd h (by omega)), fun _ => ?_⟩
      rw [hb]
      by_cases hbit : S.testBit e = true
      · rw [if_pos hbit]
        have hlt := x_pre_lt (S := S) (show e < 13 by omega) hbit
        have hlt : (x_pre S e).length < (x_pre S 13).length := hlt
        refine ⟨(by unfold z_ok2; omega), (fun h => absurd h (by omega)), fun _ => ⟨(by unfold z_ok2; omega), (fun h => absurd h (by omega)), fun _ => ⟨⟨by omega, by omega⟩, ?_⟩⟩⟩
        refine ih (e + 1) _ (by omega) (by omega) ?_ ?_ ?_
        · intro a j ha
          unfold q_upd
          rw [if_neg (by omega), if_neg (by omega)]
          exact hf a j ha
        · rw [x_pre_t hbit, List.length_append]
          show m' 63 1 + 1 = _
          rw [h1]; rfl
        · intro k hk
          rw [x_pre_t hbit, List.length_append] at hk
          have hk : k < (x_pre S e).length + 1 := hk
          rw [x_pre_t hbit]
          unfold q_upd
          rw [if_neg (by omega)]
          by_cases hk2 : k = (x_pre S e).length
          · rw [if_pos ⟨rfl, by omega⟩, hk2]
            simp [List.getD]
          · rw [if_neg (by omega), h2 k (by omega)]
            rw [List.getD_eq_getElem?_getD, List.getD_eq_getElem?_getD, List.getElem?_append_left (by omega)]
      · rw [if_neg hbit]
        refine ⟨(by unfold z_ok2; omega), fun _ => ?_, (fun h => absurd h (by omega))⟩
        refine ih (e + 1) _ (by omega) (by omega) hf ?_ ?_
        · rw [x_pre_f hbit]; exact h1
        · rw [x_pre_f hbit]; exact h2
  refine y_25a (loop 13 0 _ rfl (by omega) ?_ ?_ ?_)
  · intro a j ha
    unfold q_upd
    rw [if_neg (by omega)]
  · rfl
  · intro k hk
    exact absurd hk (by rw [x_pre_0]; simp)
theorem c_eat_a {m : z_M} {g : z_g} {Q : q_V → q_S → Prop} {S : Nat} {k : Int} (hm : x_many S ≤ 6) (h : t_E m 63 S) (h1 : 0 ≤ k) (h2 : k < x_many S) (kk : Q (.inl (x_at S k.toNat : Int)) (z_st m g)) : z_C 28 [.inr (.inr 63), .inl k] (z_st m g) Q := by
  have e1 := h.1
  have e2 := h.2 k.toNat (by omega)
  rw [← e2] at kk
  exact y_28a ⟨(by unfold z_ok; omega), (fun h => absurd h (by omega)), fun _ => ⟨(by unfold z_ok2; omega), fun _ => ⟨⟨by omega, by omega⟩, kk⟩, (fun h => absurd h (by omega))⟩⟩
theorem c_first_a {m : z_M} {g : z_g} {Q : q_V → q_S → Prop} {S : Nat} (hm : x_many S ≤ 6) (h : t_E m 63 S) (h2 : 1 ≤ x_many S) (kk : Q (.inl (x_at S 0 : Int)) (z_st m g)) : z_C 29 [.inr (.inr 63)] (z_st m g) Q :=
  y_29a (c_eat_a hm h (by omega) (by omega) (y_29a_3 kk))
theorem c_last_a {m : z_M} {g : z_g} {Q : q_V → q_S → Prop} {S : Nat} (hm : x_many S ≤ 6) (h : t_E m 63 S) (h2 : 1 ≤ x_many S) (kk : Q (.inl (x_at S (x_many S - 1) : Int)) (z_st m g)) : z_C 27 [.inr (.inr 63)] (z_st m g) Q := by
  have e1 := h.1
  refine y_27a (c_eat_a hm h (by omega) (by omega) (y_27a_6 ?_))
  rw [show (m 63 1 - 1).toNat = x_many S - 1 by omega]
  exact kk
theorem c_span_a {m : z_M} {g : z_g} {Q : q_V → q_S → Prop} {S : Nat} (hm : x_many S ≤ 6) (h : t_E m 63 S) (h2 : 1 ≤ x_many S) (kk : Q (.inl ((x_at S (x_many S - 1) : Int) - (x_at S 0 : Int))) (z_st m g)) : z_C 26 [.inr (.inr 63)] (z_st m g) Q :=
  y_26a (c_last_a hm h h2 (y_26a_2 (c_first_a hm h h2 (y_26a_4 kk))))
theorem c_ebecome_b {m : z_M} {g : z_g} {Q : q_V → q_S → Prop} {S : Nat} (hS : S < 2147483648) (hm : x_many S ≤ 6) (kk : ∀ m', (∀ a j, (a < 66 ∨ 67 < a) → m' a j = m a j) → t_E m' 66 S → Q q_dead (z_st m' g)) : z_C 25 [.inr (.inr 66), .inl (S : Int)] (z_st m g) Q := by
  have loop : ∀ (d e : Nat) (m' : z_M), 13 - e = d → e ≤ 13 → (∀ a j, (a < 66 ∨ 67 < a) → m' a j = m a j) → m' 66 1 = ((x_pre S e).length : Int) → (∀ k, k < (x_pre S e).length → m' 67 k = ((x_pre S e).getD k 0 : Int)) → z_T 25 5 [.inr (.inr 66), .inl (S : Int), .inl (e : Int)] [] (z_st m' g) Q := by
    intro d
    induction d with
    | zero =>
      intro e m' hd he hf h1 h2
      obtain rfl : e = 13 := by omega
      exact y_25b_5 ⟨(by unfold z_ok2; omega), fun _ => kk m' hf ⟨h1, h2⟩, (fun h => absurd h (by omega))⟩
    | succ d ih =>
      intro e m' hd he hf h1 h2
      have hb := q_b_bit (a := S) (e := e) hS (by omega)
      have hl := x_pre_len (S := S) (show e ≤ 13 by omega)
      have hl2 : (x_pre S 13).length ≤ 6 := hm
      refine y_25b_5 ⟨(by unfold z_ok2; omega), (fun h => absurd h (by omega)), fun _ => ?_⟩
      rw [hb]
      by_cases hbit : S.testBit e = true
      · rw [if_pos hbit]
        have hlt := x_pre_lt (S := S) (show e < 13 by omega) hbit
        have hlt : (x_pre S e).length < (x_pre S 13).length := hlt
        refine ⟨(by unfold z_ok2; omega), (fun h => absurd h (by omega)), fun _ => ⟨(by unfold z_ok2; omega), (fun h => absurd h (by omega)), fun _ => ⟨⟨by omega, by omega⟩, ?_⟩⟩⟩
        refine ih (e + 1) _ (by omega) (by omega) ?_ ?_ ?_
        · intro a j ha
          unfold q_upd
          rw [if_neg (by omega), if_neg (by omega)]
          exact hf a j ha
        · rw [x_pre_t hbit, List.length_append]
          show m' 66 1 + 1 = _
          rw [h1]; rfl
        · intro k hk
          rw [x_pre_t hbit, List.length_append] at hk
          have hk : k < (x_pre S e).length + 1 := hk
          rw [x_pre_t hbit]
          unfold q_upd
          rw [if_neg (by omega)]
          by_cases hk2 : k = (x_pre S e).length
          · rw [if_pos ⟨rfl, by omega⟩, hk2]
            simp [List.getD]
          · rw [if_neg (by omega), h2 k (by omega)]
            rw [List.getD_eq_getElem?_getD, List.getD_eq_getElem?_getD, List.getElem?_append_left (by omega)]
      · rw [if_neg hbit]
        refine ⟨(by unfold z_ok2; omega), fun _ => ?_, (fun h => absurd h (by omega))⟩
        refine ih (e + 1) _ (by omega) (by omega) hf ?_ ?_
        · rw [x_pre_f hbit]; exact h1
        · rw [x_pre_f hbit]; exact h2
  refine y_25b (loop 13 0 _ rfl (by omega) ?_ ?_ ?_)
  · intro a j ha
    unfold q_upd
    rw [if_neg (by omega)]
  · rfl
  · intro k hk
    exact absurd hk (by rw [x_pre_0]; simp)
theorem c_eat_b {m : z_M} {g : z_g} {Q : q_V → q_S → Prop} {S : Nat} {k : Int} (hm : x_many S ≤ 6) (h : t_E m 66 S) (h1 : 0 ≤ k) (h2 : k < x_many S) (kk : Q (.inl (x_at S k.toNat : Int)) (z_st m g)) : z_C 28 [.inr (.inr 66), .inl k] (z_st m g) Q := by
  have e1 := h.1
  have e2 := h.2 k.toNat (by omega)
  rw [← e2] at kk
  exact y_28b ⟨(by unfold z_ok; omega), (fun h => absurd h (by omega)), fun _ => ⟨(by unfold z_ok2; omega), fun _ => ⟨⟨by omega, by omega⟩, kk⟩, (fun h => absurd h (by omega))⟩⟩
theorem c_first_b {m : z_M} {g : z_g} {Q : q_V → q_S → Prop} {S : Nat} (hm : x_many S ≤ 6) (h : t_E m 66 S) (h2 : 1 ≤ x_many S) (kk : Q (.inl (x_at S 0 : Int)) (z_st m g)) : z_C 29 [.inr (.inr 66)] (z_st m g) Q :=
  y_29b (c_eat_b hm h (by omega) (by omega) (y_29b_3 kk))
theorem c_last_b {m : z_M} {g : z_g} {Q : q_V → q_S → Prop} {S : Nat} (hm : x_many S ≤ 6) (h : t_E m 66 S) (h2 : 1 ≤ x_many S) (kk : Q (.inl (x_at S (x_many S - 1) : Int)) (z_st m g)) : z_C 27 [.inr (.inr 66)] (z_st m g) Q := by
  have e1 := h.1
  refine y_27b (c_eat_b hm h (by omega) (by omega) (y_27b_6 ?_))
  rw [show (m 66 1 - 1).toNat = x_many S - 1 by omega]
  exact kk
theorem c_span_b {m : z_M} {g : z_g} {Q : q_V → q_S → Prop} {S : Nat} (hm : x_many S ≤ 6) (h : t_E m 66 S) (h2 : 1 ≤ x_many S) (kk : Q (.inl ((x_at S (x_many S - 1) : Int) - (x_at S 0 : Int))) (z_st m g)) : z_C 26 [.inr (.inr 66)] (z_st m g) Q :=
  y_26b (c_last_b hm h h2 (y_26b_2 (c_first_b hm h h2 (y_26b_4 kk))))
/-- Euclid with so many rounds -/
def x_eu : Nat → Nat → Nat → Nat
  | 0, a, _ => a
  | n + 1, a, b => if b = 0 then a else x_eu n b (a % b)
theorem x_eu_0 : ∀ {n a : Nat}, x_eu n a 0 = a
  | 0, _ => rfl
  | n + 1, a => by unfold x_eu; rw [if_pos rfl]
theorem x_eu_gcd : ∀ (k a b : Nat), b < 2 ^ k → x_eu (2 * k) a b = Nat.gcd a b
  | 0, a, b, h => by
    obtain rfl : b = 0 := by simpa using h
    simp [x_eu]
  | k + 1, a, b, h => by
    by_cases hb : b = 0
    · subst hb; rw [x_eu_0]; simp
    · have e : 2 * (k + 1) = 2 * k + 1 + 1 := by omega
      rw [e]
      unfold x_eu
      rw [if_neg hb]
      unfold x_eu
      have hr : a % b < b := Nat.mod_lt _ (by omega)
      have g1 : Nat.gcd a b = Nat.gcd b (a % b) := by rw [Nat.gcd_comm a b, Nat.gcd_rec b a, Nat.gcd_comm]
      by_cases h0 : a % b = 0
      · rw [if_pos h0, g1, h0]; simp
      · rw [if_neg h0, g1]
        have g2 : Nat.gcd b (a % b) = Nat.gcd (a % b) (b % (a % b)) := by rw [Nat.gcd_comm b, Nat.gcd_rec (a % b) b, Nat.gcd_comm]
        rw [g2]
        apply x_eu_gcd k
        have h2 : b % (a % b) < a % b := Nat.mod_lt _ (by omega)
        rw [Nat.pow_succ] at h
        by_cases h3 : a % b ≤ 2 ^ k
        · omega
        · have h4 : b % (a % b) = b - a % b := by
            rw [Nat.mod_eq_sub_mod (by omega), Nat.mod_eq_of_lt (by omega)]
          omega
theorem c_gcd {m : z_M} {g : z_g} {Q : q_V → q_S → Prop} {a b : Nat} (ha : a < 4611686018427387904) (hb : b < 4611686018427387904) (kk : Q (.inr (.inl (Nat.gcd a b : Int))) (z_st m g)) : z_C 31 [.inr (.inl (a : Int)), .inr (.inl (b : Int))] (z_st m g) Q := by
  have loop : ∀ (d : Nat) (a b c : Nat) (u v : Int) (v9 : q_V), d ≤ 128 → c = 128 - d → a < 4611686018427387904 → b < 4611686018427387904 → Q (.inr (.inl (x_eu d a b : Int))) (z_st m g) → z_T 31 6 [.inr (.inl u), q_dead, .inr (.inl v), q_dead, .inr (.inl (a : Int)), q_dead, .inr (.inl (b : Int)), q_dead, .inl (c : Int), v9, q_dead] [] (z_st m g) Q := by
    intro d
    induction d with
    | zero =>
      intro a b c u v v9 hd hc ha hb kk
      exact y_31_6 ⟨(by unfold z_ok2; omega), fun _ => kk, (fun h => absurd h (by omega))⟩
    | succ d ih =>
      intro a b c u v v9 hd hc ha hb kk
      refine y_31_6 ⟨(by unfold z_ok2; omega), (fun h => absurd h (by omega)), fun _ => ⟨by unfold z_okl2; omega, ?_⟩⟩
      unfold x_eu at kk
      by_cases h0 : b = 0
      · rw [if_pos h0] at kk
        rw [if_neg (by omega), if_pos (by omega)]
        exact ⟨(by unfold z_ok; omega), fun _ => kk, (fun h => absurd h (by omega))⟩
      · rw [if_neg h0] at kk
        rw [if_neg (by omega), if_neg (by omega)]
        refine ⟨(by unfold z_ok; omega), (fun h => absurd h (by omega)), fun _ => ⟨by unfold z_dl; omega, ?_⟩⟩
        have hm : a % b < b := Nat.mod_lt _ (by omega)
        rw [← Int.natCast_emod]
        exact ih b (a % b) (c + 1) u v _ (by omega) (by omega) hb (by omega) kk
  refine y_31 (loop 128 a b 0 _ _ _ (by decide) (by decide) ha hb ?_)
  rw [x_eu_gcd 64 a b (by omega)]
  exact kk
theorem c_max {m : z_M} {g : z_g} {Q : q_V → q_S → Prop} {a b : Int} (h : z_ok2 a b) (kk : Q (.inl (if a < b then b else a)) (z_st m g)) : z_C 35 [.inl a, .inl b] (z_st m g) Q :=
  y_35 ⟨h, fun h => by rw [if_pos h] at kk; exact kk, fun h => by rw [if_neg (by omega)] at kk; exact kk⟩
theorem c_min {m : z_M} {g : z_g} {Q : q_V → q_S → Prop} {a b : Int} (h : z_ok2 a b) (kk : Q (.inl (if a < b then a else b)) (z_st m g)) : z_C 86 [.inl a, .inl b] (z_st m g) Q :=
  y_86 ⟨h, fun h => by rw [if_neg (by omega)] at kk; exact kk, fun h => by
    by_cases h2 : a < b
    · rw [if_pos h2] at kk; exact kk
    · rw [if_neg h2] at kk
      obtain rfl : a = b := by omega
      exact kk⟩
def x_stp (S : Nat) : Nat → Nat
  | 0 => 0
  | n + 1 => Nat.gcd (x_stp S n) (x_at S n - x_at S 0)
def x_step (S : Nat) : Nat := x_stp S (x_many S)
theorem x_at_le {S k : Nat} (hk : k < x_many S) : x_at S 0 ≤ x_at S k ∧ x_at S k ≤ 12 := by
  have h1 := (x_at_mem hk).1
  by_cases h : k = 0
  · subst h; omega
  · have := x_at_lt (S := S) (i := 0) (j := k) (by omega) hk
    omega
theorem x_stp_pos {S : Nat} : ∀ {n : Nat}, 2 ≤ n → n ≤ x_many S → 1 ≤ x_stp S n ∧ x_stp S n ≤ 12
  | 0, h, _ => absurd h (by decide)
  | 1, h, _ => absurd h (by decide)
  | n + 2, h, hn => by
    have h0 := x_at_le (S := S) (k := n + 1) (by omega)
    have h1 := x_at_lt (S := S) (i := 0) (j := n + 1) (by omega) (by omega)
    have hp : 0 < Nat.gcd (x_stp S (n + 1)) (x_at S (n + 1) - x_at S 0) := Nat.gcd_pos_of_pos_right _ (by omega)
    have hle : Nat.gcd (x_stp S (n + 1)) (x_at S (n + 1) - x_at S 0) ≤ x_at S (n + 1) - x_at S 0 := Nat.gcd_le_right _ (by omega)
    show 1 ≤ Nat.gcd (x_stp S (n + 1)) (x_at S (n + 1) - x_at S 0) ∧ Nat.gcd (x_stp S (n + 1)) (x_at S (n + 1) - x_at S 0) ≤ 12
    omega
theorem x_stp_le {S : Nat} : ∀ {n : Nat}, n ≤ x_many S → x_stp S n ≤ 12
  | 0, _ => by simp [x_stp]
  | 1, _ => by simp [x_stp]
  | n + 2, h => (x_stp_pos (by omega) h).2
theorem x_step_pos {S : Nat} (h : x_V S) : 1 ≤ x_step S ∧ x_step S ≤ 12 := x_stp_pos h.2.1 (Nat.le_refl _)
/-- what relation i has at place k -/
def x_rel (S i k : Nat) : Int := if k = i then ((x_at S (i + 2) : Int) - x_at S (i + 1)).tdiv (Nat.gcd (x_at S (i + 1) - x_at S i) (x_at S (i + 2) - x_at S (i + 1)) : Nat) else if k = i + 1 then ((x_at S i : Int) - x_at S (i + 2)).tdiv (Nat.gcd (x_at S (i + 1) - x_at S i) (x_at S (i + 2) - x_at S (i + 1)) : Nat) else if k = i + 2 then ((x_at S (i + 1) : Int) - x_at S i).tdiv (Nat.gcd (x_at S (i + 1) - x_at S i) (x_at S (i + 2) - x_at S (i + 1)) : Nat) else 0
def x_degree (S : Nat) : Int := (2 * ((x_at S (x_many S - 1) : Int) - x_at S 0) - ((x_at S 1 : Int) - x_at S 0) - ((x_at S (x_many S - 1) : Int) - x_at S (x_many S - 2))) / (x_step S : Int)
theorem c_step_a {m : z_M} {g : z_g} {Q : q_V → q_S → Prop} {S : Nat} (hm : x_many S ≤ 6) (h : t_E m 63 S) (kk : Q (.inl (x_step S : Int)) (z_st m g)) : z_C 30 [.inr (.inr 63)] (z_st m g) Q := by
  have e1 := h.1
  have loop : ∀ (d k : Nat), x_many S - k = d → (k = 1 ∨ k ≤ x_many S) → z_T 30 4 [.inr (.inr 63), .inl (x_stp S k : Int), .inl (k : Int)] [] (z_st m g) Q := by
    intro d
    induction d with
    | zero =>
      intro k hd hk
      refine y_30a_4 ⟨(by unfold z_ok2; omega), fun _ => ?_, (fun h => absurd h (by omega))⟩
      have : x_stp S k = x_step S := by
        unfold x_step
        rcases hk with rfl | hk
        · by_cases h1 : x_many S = 1
          · rw [h1]
          · have h0 : x_many S = 0 := by omega
            rw [h0]; simp [x_stp]
        · have : k = x_many S := by omega
          rw [this]
      rw [this]; exact kk
    | succ d ih =>
      intro k hd hk
      have hk2 : k < x_many S := by omega
      have h0 := x_at_le (S := S) (k := k) hk2
      have h1 := h.2 k hk2
      have h2 := h.2 0 (by omega)
      have h3 := x_stp_le (S := S) (n := k) (by omega)
      refine y_30a_4 ⟨(by unfold z_ok2; omega), (fun h => absurd h (by omega)), fun _ => ⟨(by unfold z_ok; omega), ⟨by omega, by omega⟩, ⟨by omega, by omega⟩, ?_, ?_⟩⟩
      · show z_ok (m 64 k - m 64 0)
        rw [h1, h2]; exact (by unfold z_ok; omega)
      · show z_C 31 [.inr (.inl (x_stp S k : Int)), .inr (.inl (m 64 k - m 64 0))] _ _
        rw [h1, h2, show (x_at S k : Int) - (x_at S 0 : Int) = ((x_at S k - x_at S 0 : Nat) : Int) by omega]
        refine c_gcd (by omega) (by omega) (y_30a_21 ?_)
        exact ih (k + 1) (by omega) (by omega)
  have h1 := loop _ 1 rfl (Or.inl rfl)
  have e : x_stp S 1 = 0 := by simp [x_stp]
  rw [e] at h1
  exact y_30a h1
theorem c_area_a {m : z_M} {g : z_g} {Q : q_V → q_S → Prop} {S : Nat} (hS : x_V S) (h : t_E m 63 S) (kk : Q (.inl (((x_at S (x_many S - 1) : Int) - (x_at S 0 : Int)) / (x_step S : Int))) (z_st m g)) : z_C 32 [.inr (.inr 63)] (z_st m g) Q := by
  have h1 := x_step_pos hS
  have h2 := hS.2.1
  have h3 := x_at_le (S := S) (k := x_many S - 1) (by omega)
  refine y_32a (c_step_a hS.2.2 h (y_32a_2 ⟨(by unfold z_ok2; omega), fun _ => c_span_a hS.2.2 h (by omega) (y_32a_10 ⟨(by unfold z_dv; omega), kk⟩), (fun h => absurd h (by omega))⟩))
theorem c_degree_a {m : z_M} {g : z_g} {Q : q_V → q_S → Prop} {S : Nat} (hS : x_V S) (h : t_E m 63 S) (kk : Q (.inl (x_degree S)) (z_st m g)) : z_C 33 [.inr (.inr 63)] (z_st m g) Q := by
  have h1 := x_step_pos hS
  have h2 := hS.2.1
  have h6 := hS.2.2
  have e1 := h.1
  have h3 := x_at_le (S := S) (k := x_many S - 1) (by omega)
  have h4 := x_at_le (S := S) (k := x_many S - 2) (by omega)
  have h5 := x_at_le (S := S) (k := 1) (by omega)
  have h7 : x_at S 1 ≤ x_at S (x_many S - 1) := by
    by_cases hh : x_many S - 1 = 1
    · rw [hh]; exact Nat.le_refl _
    · exact Nat.le_of_lt (x_at_lt (by omega) (by omega))
  refine y_33a (c_step_a h6 h (y_33a_2 (c_eat_a h6 h (by decide) (by omega) (y_33a_6 (c_first_a h6 h (by omega) (y_33a_8 (c_last_a h6 h (by omega) (y_33a_11 (c_eat_a h6 h (by omega) (by omega) (y_33a_18 ⟨(by unfold z_ok2; omega), fun _ => c_span_a h6 h (by omega) (y_33a_28 ?_), (fun h => absurd h (by omega))⟩))))))))))
  rw [show (m 63 1 - 2).toNat = x_many S - 2 by omega]
  have e : (2 : Int) * ((x_at S (x_many S - 1) : Int) - (x_at S 0 : Int)) - ((x_at S (1 : Int).toNat : Int) - (x_at S 0 : Int) + (x_at S (x_many S - 1) : Int) - (x_at S (x_many S - 2) : Int)) = 2 * ((x_at S (x_many S - 1) : Int) - x_at S 0) - ((x_at S 1 : Int) - x_at S 0) - ((x_at S (x_many S - 1) : Int) - x_at S (x_many S - 2)) := by
    show (2 : Int) * ((x_at S (x_many S - 1) : Int) - (x_at S 0 : Int)) - ((x_at S 1 : Int) - (x_at S 0 : Int) + (x_at S (x_many S - 1) : Int) - (x_at S (x_many S - 2) : Int)) = _
    omega
  rw [e]
  exact ⟨(by unfold z_dv; omega), kk⟩
theorem c_rels_a {m : z_M} {g : z_g} {Q : q_V → q_S → Prop} {S : Nat} (h2 : 2 ≤ x_many S) (h6 : x_many S ≤ 6) (h : t_E m 63 S) (kk : Q (.inl ((x_many S : Int) - 2)) (z_st m g)) : z_C 34 [.inr (.inr 63)] (z_st m g) Q := by
  have e1 := h.1
  refine y_34a (c_max (by unfold z_ok2; omega) (y_34a_6 ?_))
  rw [e1]
  by_cases hh : (0 : Int) < (x_many S : Int) - 2
  · rw [if_pos hh]; exact kk
  · rw [if_neg hh]
    rw [show (x_many S : Int) - 2 = 0 by omega] at kk
    exact kk
theorem c_place_a {m : z_M} {g : z_g} {Q : q_V → q_S → Prop} {S : Nat} {e : Int} (h6 : x_many S ≤ 6) (h : t_E m 63 S) (he : z_ok e) (k1 : ∀ k : Nat, k < x_many S → (x_at S k : Int) = e → Q (.inl (k : Int)) (z_st m g)) (k2 : (∀ k : Nat, k < x_many S → ¬ (x_at S k : Int) = e) → Q (.inl (-1)) (z_st m g)) : z_C 37 [.inr (.inr 63), .inl e] (z_st m g) Q := by
  have e1 := h.1
  have loop : ∀ (d k : Nat), x_many S - k = d → k ≤ x_many S → (∀ i, i < k → ¬ (x_at S i : Int) = e) → z_T 37 2 [.inr (.inr 63), .inl e, .inl (k : Int)] [] (z_st m g) Q := by
    intro d
    induction d with
    | zero =>
      intro k hd hk hn
      obtain rfl : k = x_many S := by omega
      exact y_37a_2 ⟨(by unfold z_ok2; omega), fun _ => k2 hn, (fun h => absurd h (by omega))⟩
    | succ d ih =>
      intro k hd hk hn
      have e2 := h.2 k (by omega)
      have e3 := x_at_le (S := S) (k := k) (by omega)
      refine y_37a_2 ⟨(by unfold z_ok2; omega), (fun h => absurd h (by omega)), fun _ => ⟨⟨by omega, by omega⟩, ?_⟩⟩
      show z_ok2 (m 64 k) e ∧ (¬ m 64 k = e → _) ∧ (m 64 k = e → _)
      rw [e2]
      refine ⟨by unfold z_ok at he; unfold z_ok2; omega, fun hne => ?_, fun heq => k1 k (by omega) heq⟩
      refine ih (k + 1) (by omega) (by omega) fun i hi => ?_
      by_cases hik : i = k
      · rw [hik]; exact hne
      · exact hn i (by omega)
  exact y_37a (loop _ 0 rfl (by omega) (fun i hi => by omega))
theorem c_rel_a {m : z_M} {g : z_g} {Q : q_V → q_S → Prop} {S : Nat} {i k : Int} (h6 : x_many S ≤ 6) (h : t_E m 63 S) (hi0 : 0 ≤ i) (hi : i + 2 < x_many S) (hk0 : 0 ≤ k) (hk : k < 1000) (kk : Q (.inl (x_rel S i.toNat k.toNat)) (z_st m g)) : z_C 38 [.inr (.inr 63), .inl i, .inl k] (z_st m g) Q := by
  obtain ⟨i, rfl⟩ := Int.eq_ofNat_of_zero_le hi0
  obtain ⟨k, rfl⟩ := Int.eq_ofNat_of_zero_le hk0
  have a1 := x_at_lt (S := S) (i := i) (j := i + 1) (by omega) (by omega)
  have a2 := x_at_lt (S := S) (i := i + 1) (j := i + 2) (by omega) (by omega)
  have a3 := x_at_le (S := S) (k := i + 2) (by omega)
  refine y_38a (c_eat_a h6 h hi0 (by omega) (y_38a_3 (c_eat_a h6 h (by omega) (by omega) (y_38a_9 (c_eat_a h6 h (by omega) (by omega) (y_38a_15 ?_))))))
  rw [show ((i : Int)).toNat = i by omega, show ((i : Int) + 1).toNat = i + 1 by omega, show ((i : Int) + 2).toNat = i + 2 by omega]
  refine ⟨(by unfold z_ok; omega), (by unfold z_ok; omega), ?_⟩
  rw [show (x_at S (i + 1) : Int) - (x_at S i : Int) = ((x_at S (i + 1) - x_at S i : Nat) : Int) by omega, show (x_at S (i + 2) : Int) - (x_at S (i + 1) : Int) = ((x_at S (i + 2) - x_at S (i + 1) : Nat) : Int) by omega]
  refine c_gcd (by omega) (by omega) (y_38a_25 ?_)
  have g1 : 0 < Nat.gcd (x_at S (i + 1) - x_at S i) (x_at S (i + 2) - x_at S (i + 1)) := Nat.gcd_pos_of_pos_left _ (by omega)
  have g2 : Nat.gcd (x_at S (i + 1) - x_at S i) (x_at S (i + 2) - x_at S (i + 1)) ≤ x_at S (i + 1) - x_at S i := Nat.gcd_le_left _ (by omega)
  rw [Int.toNat_natCast, Int.toNat_natCast] at kk
  unfold x_rel at kk
  refine ⟨(by unfold z_ok2; omega), fun _ => ⟨(by unfold z_ok2; omega), fun h1 => ⟨(by unfold z_ok2; omega), fun h2 => ⟨(by unfold z_ok2; omega), fun h3 => ?_, fun h3 => ⟨(by unfold z_dw; omega), ?_⟩⟩, fun h2 => ⟨(by unfold z_dw; omega), ?_⟩⟩, fun h1 => ⟨(by unfold z_dw; omega), ?_⟩⟩, (fun h => absurd h (by omega))⟩
  · rw [if_neg (by omega), if_neg (by omega), if_neg (by omega)] at kk; exact kk
  · rw [if_neg (by omega), if_neg (by omega), if_pos (by omega)] at kk; exact kk
  · rw [if_neg (by omega), if_pos (by omega)] at kk; exact kk
  · rw [if_pos (by omega)] at kk; exact kk
theorem c_step_b {m : z_M} {g : z_g} {Q : q_V → q_S → Prop} {S : Nat} (hm : x_many S ≤ 6) (h : t_E m 66 S) (kk : Q (.inl (x_step S : Int)) (z_st m g)) : z_C 30 [.inr (.inr 66)] (z_st m g) Q := by
  have e1 := h.1
  have loop : ∀ (d k : Nat), x_many S - k = d → (k = 1 ∨ k ≤ x_many S) → z_T 30 4 [.inr (.inr 66), .inl (x_stp S k : Int), .inl (k : Int)] [] (z_st m g) Q := by
    intro d
    induction d with
    | zero =>
      intro k hd hk
      refine y_30b_4 ⟨(by unfold z_ok2; omega), fun _ => ?_, (fun h => absurd h (by omega))⟩
      have : x_stp S k = x_step S := by
        unfold x_step
        rcases hk with rfl | hk
        · by_cases h1 : x_many S = 1
          · rw [h1]
          · have h0 : x_many S = 0 := by omega
            rw [h0]; simp [x_stp]
        · have : k = x_many S := by omega
          rw [this]
      rw [this]; exact kk
    | succ d ih =>
      intro k hd hk
      have hk2 : k < x_many S := by omega
      have h0 := x_at_le (S := S) (k := k) hk2
      have h1 := h.2 k hk2
      have h2 := h.2 0 (by omega)
      have h3 := x_stp_le (S := S) (n := k) (by omega)
      refine y_30b_4 ⟨(by unfold z_ok2; omega), (fun h => absurd h (by omega)), fun _ => ⟨(by unfold z_ok; omega), ⟨by omega, by omega⟩, ⟨by omega, by omega⟩, ?_, ?_⟩⟩
      · show z_ok (m 67 k - m 67 0)
        rw [h1, h2]; exact (by unfold z_ok; omega)
      · show z_C 31 [.inr (.inl (x_stp S k : Int)), .inr (.inl (m 67 k - m 67 0))] _ _
        rw [h1, h2, show (x_at S k : Int) - (x_at S 0 : Int) = ((x_at S k - x_at S 0 : Nat) : Int) by omega]
        refine c_gcd (by omega) (by omega) (y_30b_21 ?_)
        exact ih (k + 1) (by omega) (by omega)
  have h1 := loop _ 1 rfl (Or.inl rfl)
  have e : x_stp S 1 = 0 := by simp [x_stp]
  rw [e] at h1
  exact y_30b h1
theorem c_area_b {m : z_M} {g : z_g} {Q : q_V → q_S → Prop} {S : Nat} (hS : x_V S) (h : t_E m 66 S) (kk : Q (.inl (((x_at S (x_many S - 1) : Int) - (x_at S 0 : Int)) / (x_step S : Int))) (z_st m g)) : z_C 32 [.inr (.inr 66)] (z_st m g) Q := by
  have h1 := x_step_pos hS
  have h2 := hS.2.1
  have h3 := x_at_le (S := S) (k := x_many S - 1) (by omega)
  refine y_32b (c_step_b hS.2.2 h (y_32b_2 ⟨(by unfold z_ok2; omega), fun _ => c_span_b hS.2.2 h (by omega) (y_32b_10 ⟨(by unfold z_dv; omega), kk⟩), (fun h => absurd h (by omega))⟩))
theorem c_degree_b {m : z_M} {g : z_g} {Q : q_V → q_S → Prop} {S : Nat} (hS : x_V S) (h : t_E m 66 S) (kk : Q (.inl (x_degree S)) (z_st m g)) : z_C 33 [.inr (.inr 66)] (z_st m g) Q := by
  have h1 := x_step_pos hS
  have h2 := hS.2.1
  have h6 := hS.2.2
  have e1 := h.1
  have h3 := x_at_le (S := S) (k := x_many S - 1) (by omega)
  have h4 := x_at_le (S := S) (k := x_many S - 2) (by omega)
  have h5 := x_at_le (S := S) (k := 1) (by omega)
  have h7 : x_at S 1 ≤ x_at S (x_many S - 1) := by
    by_cases hh : x_many S - 1 = 1
    · rw [hh]; exact Nat.le_refl _
    · exact Nat.le_of_lt (x_at_lt (by omega) (by omega))
  refine y_33b (c_step_b h6 h (y_33b_2 (c_eat_b h6 h (by decide) (by omega) (y_33b_6 (c_first_b h6 h (by omega) (y_33b_8 (c_last_b h6 h (by omega) (y_33b_11 (c_eat_b h6 h (by omega) (by omega) (y_33b_18 ⟨(by unfold z_ok2; omega), fun _ => c_span_b h6 h (by omega) (y_33b_28 ?_), (fun h => absurd h (by omega))⟩))))))))))
  rw [show (m 66 1 - 2).toNat = x_many S - 2 by omega]
  have e : (2 : Int) * ((x_at S (x_many S - 1) : Int) - (x_at S 0 : Int)) - ((x_at S (1 : Int).toNat : Int) - (x_at S 0 : Int) + (x_at S (x_many S - 1) : Int) - (x_at S (x_many S - 2) : Int)) = 2 * ((x_at S (x_many S - 1) : Int) - x_at S 0) - ((x_at S 1 : Int) - x_at S 0) - ((x_at S (x_many S - 1) : Int) - x_at S (x_many S - 2)) := by
    show (2 : Int) * ((x_at S (x_many S - 1) : Int) - (x_at S 0 : Int)) - ((x_at S 1 : Int) - (x_at S 0 : Int) + (x_at S (x_many S - 1) : Int) - (x_at S (x_many S - 2) : Int)) = _
    omega
  rw [e]
  exact ⟨(by unfold z_dv; omega), kk⟩
theorem c_rels_b {m : z_M} {g : z_g} {Q : q_V → q_S → Prop} {S : Nat} (h2 : 2 ≤ x_many S) (h6 : x_many S ≤ 6) (h : t_E m 66 S) (kk : Q (.inl ((x_many S : Int) - 2)) (z_st m g)) : z_C 34 [.inr (.inr 66)] (z_st m g) Q := by
  have e1 := h.1
  refine y_34b (c_max (by unfold z_ok2; omega) (y_34b_6 ?_))
  rw [e1]
  by_cases hh : (0 : Int) < (x_many S : Int) - 2
  · rw [if_pos hh]; exact kk
  · rw [if_neg hh]
    rw [show (x_many S : Int) - 2 = 0 by omega] at kk
    exact kk
theorem c_place_b {m : z_M} {g : z_g} {Q : q_V → q_S → Prop} {S : Nat} {e : Int} (h6 : x_many S ≤ 6) (h : t_E m 66 S) (he : z_ok e) (k1 : ∀ k : Nat, k < x_many S → (x_at S k : Int) = e → Q (.inl (k : Int)) (z_st m g)) (k2 : (∀ k : Nat, k < x_many S → ¬ (x_at S k : Int) = e) → Q (.inl (-1)) (z_st m g)) : z_C 37 [.inr (.inr 66), .inl e] (z_st m g) Q := by
  have e1 := h.1
  have loop : ∀ (d k : Nat), x_many S - k = d → k ≤ x_many S → (∀ i, i < k → ¬ (x_at S i : Int) = e) → z_T 37 2 [.inr (.inr 66), .inl e, .inl (k : Int)] [] (z_st m g) Q := by
    intro d
    induction d with
    | zero =>
      intro k hd hk hn
      obtain rfl : k = x_many S := by omega
      exact y_37b_2 ⟨(by unfold z_ok2; omega), fun _ => k2 hn, (fun h => absurd h (by omega))⟩
    | succ d ih =>
      intro k hd hk hn
      have e2 := h.2 k (by omega)
      have e3 := x_at_le (S := S) (k := k) (by omega)
      refine y_37b_2 ⟨(by unfold z_ok2; omega), (fun h => absurd h (by omega)), fun _ => ⟨⟨by omega, by omega⟩, ?_⟩⟩
      show z_ok2 (m 67 k) e ∧ (¬ m 67 k = e → _) ∧ (m 67 k = e → _)
      rw [e2]
      refine ⟨by unfold z_ok at he; unfold z_ok2; omega, fun hne => ?_, fun heq => k1 k (by omega) heq⟩
      refine ih (k + 1) (by omega) (by omega) fun i hi => ?_
      by_cases hik : i = k
      · rw [hik]; exact hne
      · exact hn i (by omega)
  exact y_37b (loop _ 0 rfl (by omega) (fun i hi => by omega))
theorem c_rel_b {m : z_M} {g : z_g} {Q : q_V → q_S → Prop} {S : Nat} {i k : Int} (h6 : x_many S ≤ 6) (h : t_E m 66 S) (hi0 : 0 ≤ i) (hi : i + 2 < x_many S) (hk0 : 0 ≤ k) (hk : k < 1000) (kk : Q (.inl (x_rel S i.toNat k.toNat)) (z_st m g)) : z_C 38 [.inr (.inr 66), .inl i, .inl k] (z_st m g) Q := by
  obtain ⟨i, rfl⟩ := Int.eq_ofNat_of_zero_le hi0
  obtain ⟨k, rfl⟩ := Int.eq_ofNat_of_zero_le hk0
  have a1 := x_at_lt (S := S) (i := i) (j := i + 1) (by omega) (by omega)
  have a2 := x_at_lt (S := S) (i := i + 1) (j := i + 2) (by omega) (by omega)
  have a3 := x_at_le (S := S) (k := i + 2) (by omega)
  refine y_38b (c_eat_b h6 h hi0 (by omega) (y_38b_3 (c_eat_b h6 h (by omega) (by omega) (y_38b_9 (c_eat_b h6 h (by omega) (by omega) (y_38b_15 ?_))))))
  rw [show ((i : Int)).toNat = i by omega, show ((i : Int) + 1).toNat = i + 1 by omega, show ((i : Int) + 2).toNat = i + 2 by omega]
  refine ⟨(by unfold z_ok; omega), (by unfold z_ok; omega), ?_⟩
  rw [show (x_at S (i + 1) : Int) - (x_at S i : Int) = ((x_at S (i + 1) - x_at S i : Nat) : Int) by omega, show (x_at S (i + 2) : Int) - (x_at S (i + 1) : Int) = ((x_at S (i + 2) - x_at S (i + 1) : Nat) : Int) by omega]
  refine c_gcd (by omega) (by omega) (y_38b_25 ?_)
  have g1 : 0 < Nat.gcd (x_at S (i + 1) - x_at S i) (x_at S (i + 2) - x_at S (i + 1)) := Nat.gcd_pos_of_pos_left _ (by omega)
  have g2 : Nat.gcd (x_at S (i + 1) - x_at S i) (x_at S (i + 2) - x_at S (i + 1)) ≤ x_at S (i + 1) - x_at S i := Nat.gcd_le_left _ (by omega)
  rw [Int.toNat_natCast, Int.toNat_natCast] at kk
  unfold x_rel at kk
  refine ⟨(by unfold z_ok2; omega), fun _ => ⟨(by unfold z_ok2; omega), fun h1 => ⟨(by unfold z_ok2; omega), fun h2 => ⟨(by unfold z_ok2; omega), fun h3 => ?_, fun h3 => ⟨(by unfold z_dw; omega), ?_⟩⟩, fun h2 => ⟨(by unfold z_dw; omega), ?_⟩⟩, fun h1 => ⟨(by unfold z_dw; omega), ?_⟩⟩, (fun h => absurd h (by omega))⟩
  · rw [if_neg (by omega), if_neg (by omega), if_neg (by omega)] at kk; exact kk
  · rw [if_neg (by omega), if_neg (by omega), if_pos (by omega)] at kk; exact kk
  · rw [if_neg (by omega), if_pos (by omega)] at kk; exact kk
  · rw [if_pos (by omega)] at kk; exact kk
