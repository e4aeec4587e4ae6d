/-! CONTRACTS of the class: values, slopes, roots -/
theorem z_sum_rng {f : Nat → Int} {B : Int} : ∀ {n : Nat}, (∀ k, k < n → 0 ≤ f k ∧ f k ≤ B) → 0 ≤ z_sum f n ∧ z_sum f n ≤ n * B
  | 0, _ => by simp [z_sum]
  | n + 1, h => by
    have h1 := z_sum_rng (n := n) (fun k hk => h k (by omega))
    have h2 := h n (by omega)
    have h3 : ((n + 1 : Nat) : Int) * B = n * B + B := by rw [Int.natCast_succ, Int.add_mul, Int.one_mul]
    show 0 ≤ z_sum f n + f n ∧ z_sum f n + f n ≤ ((n + 1 : Nat) : Int) * B
    omega
theorem z_sum_shift (f : Nat → Int) : ∀ n, z_sum f (n + 1) = f 0 + z_sum (fun e => f (e + 1)) n
  | 0 => by simp [z_sum]
  | n + 1 => by
    have ih := z_sum_shift f n
    show z_sum f (n + 1) + f (n + 1) = f 0 + (z_sum (fun e => f (e + 1)) n + f (n + 1))
    rw [ih]; omega
theorem q_push_r {k : Nat} (h : k < 1000) (r : List q_V) : q_push (.inr (.inr k)) r = .inr (.inr k) :: r := by
  unfold q_push
  rw [if_neg (fun e => by
    have e : k = 1009 := by injection e with e; injection e
    omega)]
def v_at (p : Int) (N : Nat → Int) (x : Int) : Int := x_h N x 13 0 % p
def s_at (p : Int) (N : Nat → Int) (x : Int) : Int := x_h (fun e => N (e + 1) * ((e : Int) + 1)) x 12 0 % p
theorem x_val {p : Int} {S : Nat} {N : Nat → Int} (h : x_N p S N) (x : Int) : z_sum (fun k => N (x_at S k) * x ^ x_at S k) (x_many S) = x_h N x 13 0 := by
  rw [x_sum S (fun e => N e * x ^ e), ← x_h_sum]
  refine z_sum_congr fun e he => ?_
  by_cases hb : S.testBit e = true
  · rw [if_pos hb]
  · rw [if_neg hb, h.2 e (Or.inr hb), Int.zero_mul]
theorem x_slp {p : Int} {S : Nat} {N : Nat → Int} (h : x_N p S N) (x : Int) : z_sum (fun k => if x_at S k = 0 then 0 else N (x_at S k) * (x_at S k : Int) * x ^ (x_at S k - 1)) (x_many S) = x_h (fun e => N (e + 1) * ((e : Int) + 1)) x 12 0 := by
  rw [x_sum S (fun e => if e = 0 then 0 else N e * (e : Int) * x ^ (e - 1)), ← x_h_sum, z_sum_shift]
  have h0 : (if S.testBit 0 = true then (if 0 = 0 then 0 else N 0 * ((0 : Nat) : Int) * x ^ (0 - 1)) else 0) = (0 : Int) := by split <;> rfl
  rw [h0, Int.zero_add]
  refine z_sum_congr fun e he => ?_
  by_cases hb : S.testBit (e + 1) = true
  · rw [if_pos hb, if_neg (by omega), Nat.add_sub_cancel]; rfl
  · rw [if_neg hb, h.2 (e + 1) (Or.inr hb)]; simp
theorem x_pow_m {p x : Int} {a : Int} {e : Nat} : (a * (x ^ e % p)) % p = (a * x ^ e) % p := z_mmul rfl z_mm
theorem c_valueAt {m : z_M} {g : z_g} {Q : q_V → q_S → Prop} {p : Int} {S : Nat} {N : Nat → Int} {x : Int} (h6 : x_many S ≤ 6) (hT : t_TT m p S N) (hN : x_N p S N) (h0 : 0 ≤ x) (h1 : x < p) (kk : Q (.inl (v_at p N x)) (z_st m g)) : z_C 60 [.inr (.inr 65), .inl x] (z_st m g) Q := by
  obtain ⟨hF, hE, h8⟩ := hT
  have hp := hF.1
  have hp5 := z_pr_le hp
  have e1 := hE.1
  refine y_60 (c_powersOf hp h0 h1 ?_)
  show z_T 60 4 _ (q_push (.inr (.inr (31 + x.toNat))) []) _ _
  rw [q_push_r (by omega)]
  refine y_60_4 ⟨by omega, ?_⟩
  have hterm : ∀ k, k < x_many S → 0 ≤ N (x_at S k) * (x ^ x_at S k % p) ∧ N (x_at S k) * (x ^ x_at S k % p) ≤ 31 * 31 := by
    intro k hk
    have a1 := hN.1 (x_at S k)
    have a2 := z_m0 (p := p) (a := x ^ x_at S k) (by omega)
    exact ⟨Int.mul_nonneg (by omega) (by omega), Int.mul_le_mul (by omega) (by omega) (by omega) (by omega)⟩
  have loop : ∀ (d k : Nat), x_many S - k = d → k ≤ x_many S → z_T 60 9 [.inr (.inr 65), .inl x, .inr (.inr (31 + x.toNat)), .inl (z_sum (fun k => N (x_at S k) * (x ^ x_at S k % p)) k), .inl (k : Int)] [] (z_st m g) Q := by
    intro d
    induction d with
    | zero =>
      intro k hd hk
      obtain rfl : k = x_many S := by omega
      have hs := z_sum_rng (n := x_many S) hterm
      refine y_60_9 ⟨(by unfold z_ok2; omega), fun _ => c_mod' hp hF.2.1 (by unfold z_ok; omega) (y_60_34 ?_), (fun h => absurd h (by omega))⟩
      have e : z_sum (fun k => N (x_at S k) * (x ^ x_at S k % p)) (x_many S) % p = v_at p N x := by
        unfold v_at
        rw [← x_val hN x]
        exact z_msum fun k hk => x_pow_m
      rw [e]; exact kk
    | succ d ih =>
      intro k hd hk
      have hl := x_at_le (S := S) (k := k) (by omega)
      have hl2 : x_at S 0 ≤ x_at S (k : Int).toNat ∧ x_at S (k : Int).toNat ≤ 12 := hl
      refine y_60_9 ⟨(by unfold z_ok2; omega), (fun h => absurd h (by omega)), fun _ => ⟨⟨by omega, by omega⟩, by omega, c_eat_b h6 hE (by omega) (by omega) (y_60_24 ⟨z_sp30 (by omega), ⟨by omega, by omega⟩, ?_⟩)⟩⟩
      have e2 : m 68 (k : Int).toNat = N (x_at S k) := h8 k (by omega)
      have e3 : m (31 + x.toNat) ((x_at S (k : Int).toNat : Nat) : Int).toNat = x ^ x_at S k % p := by
        have := hF.2.2.1 x.toNat (x_at S k) (by omega) (by omega)
        rw [Int.toNat_of_nonneg h0] at this
        exact this
      rw [e2, e3]
      exact ih (k + 1) (by omega) (by omega)
  exact loop _ 0 rfl (by omega)
theorem c_slopeAt {m : z_M} {g : z_g} {Q : q_V → q_S → Prop} {p : Int} {S : Nat} {N : Nat → Int} {x : Int} (h6 : x_many S ≤ 6) (hT : t_TT m p S N) (hN : x_N p S N) (h0 : 0 ≤ x) (h1 : x < p) (kk : Q (.inl (s_at p N x)) (z_st m g)) : z_C 64 [.inr (.inr 65), .inl x] (z_st m g) Q := by
  obtain ⟨hF, hE, h8⟩ := hT
  have hp := hF.1
  have hp5 := z_pr_le hp
  have e1 := hE.1
  refine y_64 (c_powersOf hp h0 h1 ?_)
  show z_T 64 4 _ (q_push (.inr (.inr (31 + x.toNat))) []) _ _
  rw [q_push_r (by omega)]
  refine y_64_4 ⟨by omega, ?_⟩
  have hterm : ∀ k, k < x_many S → 0 ≤ (if x_at S k = 0 then 0 else N (x_at S k) * (x_at S k : Int) * (x ^ (x_at S k - 1) % p)) ∧ (if x_at S k = 0 then 0 else N (x_at S k) * (x_at S k : Int) * (x ^ (x_at S k - 1) % p)) ≤ 31 * 12 * 31 := by
    intro k hk
    have a1 := hN.1 (x_at S k)
    have a2 := z_m0 (p := p) (a := x ^ (x_at S k - 1)) (by omega)
    have a3 := x_at_le hk
    have a4 : 0 ≤ N (x_at S k) * (x_at S k : Int) ∧ N (x_at S k) * (x_at S k : Int) ≤ 31 * 12 := ⟨Int.mul_nonneg (by omega) (by omega), Int.mul_le_mul (by omega) (by omega) (by omega) (by omega)⟩
    split
    · omega
    · exact ⟨Int.mul_nonneg (by omega) (by omega), Int.mul_le_mul (by omega) (by omega) (by omega) (by omega)⟩
  have loop : ∀ (d k : Nat) (v5 : q_V), x_many S - k = d → k ≤ x_many S → z_T 64 9 [.inr (.inr 65), .inl x, .inr (.inr (31 + x.toNat)), .inl (z_sum (fun k => if x_at S k = 0 then 0 else N (x_at S k) * (x_at S k : Int) * (x ^ (x_at S k - 1) % p)) k), .inl (k : Int), v5] [] (z_st m g) Q := by
    intro d
    induction d with
    | zero =>
      intro k v5 hd hk
      obtain rfl : k = x_many S := by omega
      have hs := z_sum_rng (n := x_many S) hterm
      refine y_64_9 ⟨(by unfold z_ok2; omega), fun _ => c_mod' hp hF.2.1 (by unfold z_ok; omega) (y_64_42 ?_), (fun h => absurd h (by omega))⟩
      have e : z_sum (fun k => if x_at S k = 0 then 0 else N (x_at S k) * (x_at S k : Int) * (x ^ (x_at S k - 1) % p)) (x_many S) % p = s_at p N x := by
        unfold s_at
        rw [← x_slp hN x]
        refine z_msum fun k hk => ?_
        by_cases h : x_at S k = 0
        · rw [if_pos h, if_pos h]
        · rw [if_neg h, if_neg h]; exact x_pow_m
      rw [e]; exact kk
    | succ d ih =>
      intro k v5 hd hk
      have hl := x_at_le (S := S) (k := k) (by omega)
      have hl2 : x_at S 0 ≤ x_at S (k : Int).toNat ∧ x_at S (k : Int).toNat ≤ 12 := hl
      refine y_64_9 ⟨(by unfold z_ok2; omega), (fun h => absurd h (by omega)), fun _ => c_eat_b h6 hE (by omega) (by omega) (y_64_18 ?_)⟩
      have ih := ih (k + 1) (.inl (x_at S k : Int)) (by omega) (by omega)
      have e4 : z_sum (fun k => if x_at S k = 0 then 0 else N (x_at S k) * (x_at S k : Int) * (x ^ (x_at S k - 1) % p)) (k + 1) = z_sum (fun k => if x_at S k = 0 then 0 else N (x_at S k) * (x_at S k : Int) * (x ^ (x_at S k - 1) % p)) k + (if x_at S k = 0 then 0 else N (x_at S k) * (x_at S k : Int) * (x ^ (x_at S k - 1) % p)) := rfl
      rw [e4] at ih
      show z_ok (x_at S k : Int) ∧ _
      refine ⟨(by unfold z_ok; omega), fun hz => ?_, fun hz => ⟨⟨by omega, by omega⟩, by omega, z_sp30 (by omega), ⟨by omega, by omega⟩, ?_⟩⟩
      · have hz : (x_at S k : Int) ≤ 0 := hz
        rw [if_pos (by omega), Int.add_zero] at ih
        exact ih
      · have hz : 0 < (x_at S k : Int) := hz
        have e2 : m 68 (k : Int).toNat = N (x_at S k) := h8 k (by omega)
        have e3 : m (31 + x.toNat) (((x_at S (k : Int).toNat : Nat) : Int) - 1).toNat = x ^ (x_at S k - 1) % p := by
          have := hF.2.2.1 x.toNat (x_at S k - 1) (by omega) (by omega)
          rw [Int.toNat_of_nonneg h0] at this
          rw [show (((x_at S (k : Int).toNat : Nat) : Int) - 1).toNat = x_at S k - 1 by show ((x_at S k : Int) - 1).toNat = _; omega]
          exact this
        rw [if_neg (by omega)] at ih
        rw [e2, e3]
        exact ih
  exact loop _ 0 _ rfl (by omega)
theorem v_at_rng {p : Int} {N : Nat → Int} {x : Int} (h : z_pr p) : 0 ≤ v_at p N x ∧ v_at p N x < p := z_m0 (by have := z_pr_le h; omega)
theorem s_at_rng {p : Int} {N : Nat → Int} {x : Int} (h : z_pr p) : 0 ≤ s_at p N x ∧ s_at p N x < p := z_m0 (by have := z_pr_le h; omega)
theorem c_isDouble {m : z_M} {g : z_g} {Q : q_V → q_S → Prop} {p : Int} {S : Nat} {N : Nat → Int} {x : Int} (h6 : x_many S ≤ 6) (hT : t_TT m p S N) (hN : x_N p S N) (h0 : 0 ≤ x) (h1 : x < p) (k1 : v_at p N x = 0 ∧ s_at p N x = 0 → Q (.inl 1) (z_st m g)) (k0 : ¬ (v_at p N x = 0 ∧ s_at p N x = 0) → Q (.inl 0) (z_st m g)) : z_C 63 [.inr (.inr 65), .inl x] (z_st m g) Q := by
  have hp5 := z_pr_le hT.1.1
  have a1 := v_at_rng (N := N) (x := x) hT.1.1
  have a2 := s_at_rng (N := N) (x := x) hT.1.1
  exact y_63 (c_valueAt h6 hT hN h0 h1 (y_63_3 ⟨(by unfold z_ok; omega), fun h => k0 (fun e => h e.1), fun h => c_slopeAt h6 hT hN h0 h1 (y_63_7 ⟨(by unfold z_ok; omega), fun h2 => k0 (fun e => h2 e.2), fun h2 => k1 ⟨h, h2⟩⟩)⟩))
/-- it has a double root -/
def x_dbl (p : Int) (N : Nat → Int) : Prop := ∃ x : Nat, 1 ≤ x ∧ (x : Int) < p ∧ v_at p N x = 0 ∧ s_at p N x = 0
theorem c_hasDouble {m : z_M} {g : z_g} {Q : q_V → q_S → Prop} {p : Int} {S : Nat} {N : Nat → Int} (h6 : x_many S ≤ 6) (hT : t_TT m p S N) (hN : x_N p S N) (k1 : x_dbl p N → Q (.inl 1) (z_st m g)) (k0 : ¬ x_dbl p N → Q (.inl 0) (z_st m g)) : z_C 133 [.inr (.inr 65)] (z_st m g) Q := by
  have hp5 := z_pr_le hT.1.1
  have hF := hT.1.2.1
  have loop : ∀ (d x : Nat), p.toNat - x = d → 1 ≤ x → (x : Int) ≤ p → (∀ y : Nat, 1 ≤ y → y < x → ¬ (v_at p N y = 0 ∧ s_at p N y = 0)) → z_T 133 2 [.inr (.inr 65), .inl (x : Int)] [] (z_st m g) Q := by
    intro d
    induction d with
    | zero =>
      intro x hd h1 h2 hn
      refine y_133_2 ⟨(by unfold z_ok2; omega), fun _ => k0 ?_, (fun h => absurd h (by omega))⟩
      rintro ⟨y, y1, y2, y3⟩
      exact hn y y1 (by omega) y3
    | succ d ih =>
      intro x hd h1 h2 hn
      refine y_133_2 ⟨(by unfold z_ok2; omega), (fun h => absurd h (by omega)), fun _ => c_isDouble h6 hT hN (by omega) (by omega) (fun h => y_133_10 ⟨(by unfold z_ok; omega), (fun h => absurd h (by omega)), fun _ => k1 ⟨x, h1, by omega, h⟩⟩) (fun h => y_133_10 ⟨(by unfold z_ok; omega), fun _ => ?_, fun h => absurd rfl h⟩)⟩
      refine ih (x + 1) (by omega) (by omega) (by omega) fun y y1 y2 => ?_
      by_cases hyx : y = x
      · rw [hyx]; exact h
      · exact hn y y1 (by omega)
  exact y_133 (loop _ 1 rfl (by omega) (by omega) (fun y h1 h2 => by omega))
/-- the set of those below n of which f holds -/
def x_bits (f : Nat → Bool) : Nat → Nat
  | 0 => 0
  | n + 1 => if f n = true then x_bits f n + 2 ^ n else x_bits f n
theorem x_bits_lt (f : Nat → Bool) : ∀ n, x_bits f n < 2 ^ n
  | 0 => Nat.one_pos
  | n + 1 => by
    have := x_bits_lt f n
    rw [Nat.pow_succ]
    unfold x_bits
    split <;> omega
theorem x_bits_congr {f g : Nat → Bool} : ∀ {n : Nat}, (∀ k, k < n → f k = g k) → x_bits f n = x_bits g n
  | 0, _ => rfl
  | n + 1, h => by
    unfold x_bits
    rw [x_bits_congr (n := n) (fun k hk => h k (by omega)), h n (by omega)]
theorem x_or {a n : Nat} (h : a < 2 ^ n) : a ||| 2 ^ n = a + 2 ^ n := by
  have := Nat.two_pow_add_eq_or_of_lt h 1
  rw [Nat.mul_one] at this
  rw [Nat.or_comm, ← this, Nat.add_comm]
/-- one more in a set -/
theorem q_b_add {a n : Nat} (h : a < 2 ^ n) (hn : n ≤ 30) : q_bin 4 (a : Int) (q_bin 6 1 (n : Int)) = ((a + 2 ^ n : Nat) : Int) := by
  have h30 : 2 ^ n ≤ 2 ^ 30 := Nat.pow_le_pow_right (by decide) hn
  have e1 : q_bin 6 1 (n : Int) = ((2 ^ n : Nat) : Int) := by
    have := q_b_shl (a := 1) (e := n) (by omega) (by omega)
    rw [Nat.one_mul] at this
    exact this
  rw [e1, q_b_or (by omega) (by omega), x_or h]
def r_roots (p : Int) (N : Nat → Int) : Nat := x_bits (fun x => decide (1 ≤ x) && decide (v_at p N x = 0)) p.toNat
def r_doubles (p : Int) (N : Nat → Int) : Nat := x_bits (fun x => decide (1 ≤ x) && (decide (v_at p N x = 0) && decide (s_at p N x = 0))) p.toNat
theorem c_roots {m : z_M} {g : z_g} {Q : q_V → q_S → Prop} {p : Int} {S : Nat} {N : Nat → Int} (h6 : x_many S ≤ 6) (hT : t_TT m p S N) (hN : x_N p S N) (kk : Q (.inl (r_roots p N : Int)) (z_st m g)) : z_C 59 [.inr (.inr 65)] (z_st m g) Q := by
  have hp5 := z_pr_le hT.1.1
  have hF := hT.1.2.1
  have loop : ∀ (d x : Nat), p.toNat - x = d → 1 ≤ x → (x : Int) ≤ p → z_T 59 4 [.inr (.inr 65), .inl (x_bits (fun x => decide (1 ≤ x) && decide (v_at p N x = 0)) x : Int), .inl (x : Int)] [] (z_st m g) Q := by
    intro d
    induction d with
    | zero =>
      intro x hd h1 h2
      obtain rfl : x = p.toNat := by omega
      exact y_59_4 ⟨(by unfold z_ok2; omega), fun _ => kk, (fun h => absurd h (by omega))⟩
    | succ d ih =>
      intro x hd h1 h2
      have a1 := v_at_rng (N := N) (x := x) hT.1.1
      have ih := ih (x + 1) (by omega) (by omega) (by omega)
      unfold x_bits at ih
      refine y_59_4 ⟨(by unfold z_ok2; omega), (fun h => absurd h (by omega)), fun _ => c_valueAt h6 hT hN (by omega) (by omega) (y_59_12 ⟨(by unfold z_ok; omega), fun h => ?_, fun h => ?_⟩)⟩
      · rw [if_neg (by simp [h])] at ih; exact ih
      · rw [if_pos (by simp [h, h1])] at ih
        rw [q_b_add (x_bits_lt _ x) (by omega)]
        exact ih
  exact y_59 (loop _ 1 rfl (by omega) (by omega))
theorem c_doubles {m : z_M} {g : z_g} {Q : q_V → q_S → Prop} {p : Int} {S : Nat} {N : Nat → Int} (h6 : x_many S ≤ 6) (hT : t_TT m p S N) (hN : x_N p S N) (kk : Q (.inl (r_doubles p N : Int)) (z_st m g)) : z_C 62 [.inr (.inr 65)] (z_st m g) Q := by
  have hp5 := z_pr_le hT.1.1
  have hF := hT.1.2.1
  have loop : ∀ (d x : Nat), p.toNat - x = d → 1 ≤ x → (x : Int) ≤ p → z_T 62 4 [.inr (.inr 65), .inl (x_bits (fun x => decide (1 ≤ x) && (decide (v_at p N x = 0) && decide (s_at p N x = 0))) x : Int), .inl (x : Int)] [] (z_st m g) Q := by
    intro d
    induction d with
    | zero =>
      intro x hd h1 h2
      obtain rfl : x = p.toNat := by omega
      exact y_62_4 ⟨(by unfold z_ok2; omega), fun _ => kk, (fun h => absurd h (by omega))⟩
    | succ d ih =>
      intro x hd h1 h2
      have ih := ih (x + 1) (by omega) (by omega) (by omega)
      unfold x_bits at ih
      refine y_62_4 ⟨(by unfold z_ok2; omega), (fun h => absurd h (by omega)), fun _ => c_isDouble h6 hT hN (by omega) (by omega) (fun h => y_62_12 ⟨(by unfold z_ok; omega), (fun h => absurd h (by omega)), fun _ => ?_⟩) (fun h => y_62_12 ⟨(by unfold z_ok; omega), fun _ => ?_, fun h => absurd rfl h⟩)⟩
      · rw [if_pos (by simp [h, h1])] at ih
        rw [q_b_add (x_bits_lt _ x) (by omega)]
        exact ih
      · rw [if_neg (by simp; intro _ h3; exact fun h4 => h ⟨h3, h4⟩)] at ih; exact ih
  exact y_62 (loop _ 1 rfl (by omega) (by omega))
def r_notZero (N : Nat → Int) : Int := z_sum (fun e => if N e = 0 then 0 else 1) 13
theorem c_notZero {m : z_M} {g : z_g} {Q : q_V → q_S → Prop} {p : Int} {S : Nat} {N : Nat → Int} (h6 : x_many S ≤ 6) (hT : t_TT m p S N) (hN : x_N p S N) (kk : Q (.inl (r_notZero N)) (z_st m g)) : z_C 65 [.inr (.inr 65)] (z_st m g) Q := by
  have hp5 := z_pr_le hT.1.1
  obtain ⟨hF, hE, h8⟩ := hT
  have e1 := hE.1
  have loop : ∀ (d k : Nat), x_many S - k = d → k ≤ x_many S → z_T 65 4 [.inr (.inr 65), .inl (z_sum (fun k => if N (x_at S k) = 0 then 0 else 1) k), .inl (k : Int)] [] (z_st m g) Q := by
    intro d
    induction d with
    | zero =>
      intro k hd hk
      obtain rfl : k = x_many S := by omega
      refine y_65_4 ⟨(by unfold z_ok2; omega), fun _ => ?_, (fun h => absurd h (by omega))⟩
      rw [x_sum S (fun e => if N e = 0 then 0 else 1)]
      have e : z_sum (fun e => if S.testBit e = true then (if N e = 0 then 0 else 1) else 0) 13 = r_notZero N := z_sum_congr fun e he => by
        by_cases hb : S.testBit e = true
        · rw [if_pos hb]
        · rw [if_neg hb, if_pos (hN.2 e (Or.inr hb))]
      rw [e]; exact kk
    | succ d ih =>
      intro k hd hk
      have a1 := hN.1 (x_at S k)
      have ih := ih (k + 1) (by omega) (by omega)
      have e4 : z_sum (fun k => if N (x_at S k) = 0 then 0 else 1) (k + 1) = z_sum (fun k => if N (x_at S k) = 0 then 0 else 1) k + (if N (x_at S k) = 0 then 0 else 1) := rfl
      rw [e4] at ih
      have e2 : m 68 (k : Int).toNat = N (x_at S k) := h8 k (by omega)
      refine y_65_4 ⟨(by unfold z_ok2; omega), (fun h => absurd h (by omega)), fun _ => ⟨⟨by omega, by omega⟩, ?_⟩⟩
      rw [e2]
      refine ⟨(by unfold z_ok; omega), fun h => ?_, fun h => ?_⟩
      · rw [if_pos h, Int.add_zero] at ih; exact ih
      · rw [if_neg h] at ih; exact ih
  exact y_65 (loop _ 0 rfl (by omega))
theorem c_numberAt {m : z_M} {g : z_g} {Q : q_V → q_S → Prop} {p : Int} {S : Nat} {N : Nat → Int} {k : Int} (h6 : x_many S ≤ 6) (hT : t_TT m p S N) (h0 : 0 ≤ k) (h1 : k < x_many S) (kk : Q (.inl (N (x_at S k.toNat))) (z_st m g)) : z_C 67 [.inr (.inr 65), .inl k] (z_st m g) Q := by
  have e1 := hT.2.1.1
  rw [← hT.2.2 k.toNat (by omega)] at kk
  exact y_67 ⟨(by unfold z_ok; omega), (fun h => absurd h (by omega)), fun _ => ⟨(by unfold z_ok2; omega), fun _ => ⟨⟨by omega, by omega⟩, kk⟩, (fun h => absurd h (by omega))⟩⟩
