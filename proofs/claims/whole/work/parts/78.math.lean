/-! PURE: the exponents of a set, sums, numbers modulo p -/
def x_pre (S n : Nat) : List Nat := (List.range n).filter (fun e => S.testBit e)
def x_many (S : Nat) : Nat := (x_pre S 13).length
def x_at (S k : Nat) : Nat := (x_pre S 13).getD k 0
theorem x_pre_0 {S : Nat} : x_pre S 0 = [] := rfl
theorem x_pre_succ (S n : Nat) : x_pre S (n + 1) = if S.testBit n = true then x_pre S n ++ [n] else x_pre S n := by
  unfold x_pre
  rw [List.range_succ, List.filter_append]
  by_cases h : S.testBit n = true
  · simp [h]
  · simp [h]
theorem x_pre_t {S n : Nat} (h : S.testBit n = true) : x_pre S (n + 1) = x_pre S n ++ [n] := by rw [x_pre_succ, if_pos h]
theorem x_pre_f {S n : Nat} (h : ¬ S.testBit n = true) : x_pre S (n + 1) = x_pre S n := by rw [x_pre_succ, if_neg h]
theorem x_pre_mem {S n e : Nat} : e ∈ x_pre S n ↔ e < n ∧ S.testBit e = true := by
  unfold x_pre
  rw [List.mem_filter, List.mem_range]
theorem x_pre_pref (S a : Nat) : ∀ b, ∃ l, x_pre S (a + b) = x_pre S a ++ l
  | 0 => ⟨[], by rw [List.append_nil]; rfl⟩
  | b + 1 => by
    obtain ⟨l, h⟩ := x_pre_pref S a b
    rw [← Nat.add_assoc, x_pre_succ, h]
    by_cases hb : S.testBit (a + b) = true
    · rw [if_pos hb]; exact ⟨l ++ [a + b], by rw [List.append_assoc]⟩
    · rw [if_neg hb]; exact ⟨l, rfl⟩
theorem x_pre_len {S a b : Nat} (h : a ≤ b) : (x_pre S a).length ≤ (x_pre S b).length := by
  obtain ⟨d, rfl⟩ := Nat.exists_eq_add_of_le h
  obtain ⟨l, e⟩ := x_pre_pref S a d
  rw [e, List.length_append]; omega
theorem x_pre_lt {S e : Nat} (he : e < 13) (hb : S.testBit e = true) : (x_pre S e).length < x_many S := by
  have h1 := x_pre_len (S := S) (show e + 1 ≤ 13 by omega)
  rw [x_pre_t hb, List.length_append] at h1
  have : [e].length = 1 := rfl
  unfold x_many; omega
theorem x_at_of {S e k : Nat} (he : e < 13) (hb : S.testBit e = true) (hk : (x_pre S e).length = k) : x_at S k = e := by
  obtain ⟨l, h⟩ := x_pre_pref S (e + 1) (12 - e)
  have h13 : e + 1 + (12 - e) = 13 := by omega
  rw [h13, x_pre_t hb] at h
  unfold x_at
  rw [h, ← hk]
  simp [List.getD]
theorem x_at_mem {S k : Nat} (hk : k < x_many S) : x_at S k < 13 ∧ S.testBit (x_at S k) = true := by
  have h : x_at S k ∈ x_pre S 13 := by
    unfold x_at
    unfold x_many at hk
    rw [List.getD_eq_getElem?_getD, List.getElem?_eq_getElem hk]
    exact List.getElem_mem hk
  exact x_pre_mem.mp h
theorem x_at_lt {S i j : Nat} (h : i < j) (hj : j < x_many S) : x_at S i < x_at S j := by
  have hp : (x_pre S 13).Pairwise (· < ·) := by
    unfold x_pre
    exact List.Pairwise.filter _ List.pairwise_lt_range
  unfold x_many at hj
  have := List.pairwise_iff_getElem.mp hp i j (by omega) hj h
  unfold x_at
  rw [List.getD_eq_getElem?_getD, List.getElem?_eq_getElem (by omega), List.getD_eq_getElem?_getD, List.getElem?_eq_getElem hj]
  exact this
theorem x_at_inj {S i j : Nat} (hi : i < x_many S) (hj : j < x_many S) (h : x_at S i = x_at S j) : i = j := by
  rcases Nat.lt_trichotomy i j with h1 | h1 | h1
  · have := x_at_lt h1 hj; omega
  · exact h1
  · have := x_at_lt h1 hi; omega
theorem x_at_ex {S e : Nat} (he : e < 13) (hb : S.testBit e = true) : ∃ k, k < x_many S ∧ x_at S k = e := ⟨_, x_pre_lt he hb, x_at_of he hb rfl⟩
def x_V (S : Nat) : Prop := S < 8192 ∧ 2 ≤ x_many S ∧ x_many S ≤ 6
/-! sums -/
def z_sum (f : Nat → Int) : Nat → Int
  | 0 => 0
  | n + 1 => z_sum f n + f n
theorem z_sum_congr {f g : Nat → Int} : ∀ {n : Nat}, (∀ k, k < n → f k = g k) → z_sum f n = z_sum g n
  | 0, _ => rfl
  | n + 1, h => by
    show z_sum f n + f n = z_sum g n + g n
    rw [z_sum_congr (fun k hk => h k (by omega)), h n (by omega)]
theorem x_sum' (S : Nat) (g : Nat → Int) : ∀ n, z_sum (fun k => g ((x_pre S n).getD k 0)) (x_pre S n).length = z_sum (fun e => if S.testBit e = true then g e else 0) n
  | 0 => rfl
  | n + 1 => by
    have ih := x_sum' S g n
    show _ = z_sum (fun e => if S.testBit e = true then g e else 0) n + (if S.testBit n = true then g n else 0)
    rw [← ih]
    by_cases hb : S.testBit n = true
    · rw [x_pre_t hb, if_pos hb, List.length_append]
      show z_sum (fun k => g ((x_pre S n ++ [n]).getD k 0)) (x_pre S n).length + g ((x_pre S n ++ [n]).getD (x_pre S n).length 0) = _
      congr 1
      · refine z_sum_congr fun k hk => ?_
        congr 1
        rw [List.getD_eq_getElem?_getD, List.getD_eq_getElem?_getD, List.getElem?_append_left hk]
      · simp [List.getD]
    · rw [x_pre_f hb, if_neg hb, Int.add_zero]
theorem x_sum (S : Nat) (g : Nat → Int) : z_sum (fun k => g (x_at S k)) (x_many S) = z_sum (fun e => if S.testBit e = true then g e else 0) 13 := x_sum' S g 13
/-- sums of powers, the least first: f e + x f (e + 1) + .. , n of them -/
def x_h (f : Nat → Int) (x : Int) : Nat → Nat → Int
  | 0, _ => 0
  | n + 1, e => f e + x * x_h f x n (e + 1)
theorem x_h_last (f : Nat → Int) (x : Int) : ∀ n e, x_h f x (n + 1) e = x_h f x n e + f (e + n) * x ^ n
  | 0, e => by simp [x_h]
  | n + 1, e => by
    have ih := x_h_last f x n (e + 1)
    have h1 : x_h f x (n + 1 + 1) e = f e + x * x_h f x (n + 1) (e + 1) := rfl
    have h2 : x_h f x (n + 1) e = f e + x * x_h f x n (e + 1) := rfl
    rw [h1, h2, ih, Int.pow_succ, show e + 1 + n = e + (n + 1) by omega]
    grind
theorem x_h_sum (f : Nat → Int) (x : Int) : ∀ n, z_sum (fun e => f e * x ^ e) n = x_h f x n 0
  | 0 => rfl
  | n + 1 => by
    rw [x_h_last, ← x_h_sum f x n, Nat.zero_add]
    rfl
theorem x_h_congr {f g : Nat → Int} {x : Int} : ∀ {n e : Nat}, (∀ i, e ≤ i → i < e + n → f i = g i) → x_h f x n e = x_h g x n e
  | 0, _, _ => rfl
  | n + 1, e, h => by
    show f e + x * x_h f x n (e + 1) = g e + x * x_h g x n (e + 1)
    rw [h e (by omega) (by omega), x_h_congr (fun i h1 h2 => h i (by omega) (by omega))]
/-! modulo -/
theorem z_mk {p a b k : Int} (h : a = b + p * k) : a % p = b % p := by rw [h, Int.add_mul_emod_self_left]
theorem z_mm {p a : Int} : (a % p) % p = a % p := Int.emod_emod_of_dvd a (Int.dvd_refl p)
theorem z_md {p a : Int} : a % p = a - p * (a / p) := Int.emod_def a p
theorem z_madd {p a b c d : Int} (h : a % p = b % p) (k : c % p = d % p) : (a + c) % p = (b + d) % p := by rw [Int.add_emod, h, k, ← Int.add_emod]
theorem z_msub {p a b c d : Int} (h : a % p = b % p) (k : c % p = d % p) : (a - c) % p = (b - d) % p := by rw [Int.sub_emod, h, k, ← Int.sub_emod]
theorem z_mmul {p a b c d : Int} (h : a % p = b % p) (k : c % p = d % p) : (a * c) % p = (b * d) % p := by rw [Int.mul_emod, h, k, ← Int.mul_emod]
theorem z_mneg {p a b : Int} (h : a % p = b % p) : (-a) % p = (-b) % p := by
  have := z_msub (p := p) (a := 0) (b := 0) rfl h
  simpa using this
theorem z_msum {p : Int} {f g : Nat → Int} : ∀ {n : Nat}, (∀ k, k < n → f k % p = g k % p) → z_sum f n % p = z_sum g n % p
  | 0, _ => rfl
  | n + 1, h => z_madd (z_msum (fun k hk => h k (by omega))) (h n (by omega))
/-- one step of the sum of powers from the highest on -/
theorem x_hstep {p : Int} (f : Nat → Int) (x : Int) (n e : Nat) : ((x_h f x n (e + 1) % p) * x + f e) % p = x_h f x (n + 1) e % p := by
  show _ = (f e + x * x_h f x n (e + 1)) % p
  rw [z_md (a := x_h f x n (e + 1))]
  refine z_mk (k := -(x_h f x n (e + 1) / p) * x) ?_
  grind
theorem z_m0 {p a : Int} (h : 0 < p) : 0 ≤ a % p ∧ a % p < p := ⟨Int.emod_nonneg a (by omega), Int.emod_lt_of_pos a h⟩
theorem z_mi {p a : Int} (h1 : 0 ≤ a) (h2 : a < p) : a % p = a := Int.emod_eq_of_lt h1 h2
/-! the nine primes -/
def z_prs : List Nat := [5, 7, 11, 13, 17, 19, 23, 29, 31]
def z_pr (p : Int) : Prop := ∃ q ∈ z_prs, p = (q : Int)
theorem z_pr_le {p : Int} (h : z_pr p) : 5 ≤ p ∧ p ≤ 31 := by
  obtain ⟨q, hq, rfl⟩ := h
  have h1 : ∀ q ∈ z_prs, 5 ≤ q ∧ q ≤ 31 := by decide
  have := h1 q hq
  omega
def z_inv (p x : Int) : Int := x ^ (p.toNat - 2) % p
theorem z_inv_dec : ∀ q ∈ z_prs, ∀ x, x < q → (x = 0 → z_inv (q : Int) (x : Int) = 0) ∧ (0 < x → ((x : Int) * z_inv q x) % (q : Int) = 1 ∧ 1 ≤ z_inv (q : Int) (x : Int)) := by decide +kernel
theorem z_inv_one {p x : Int} (hp : z_pr p) (h1 : 0 < x) (h2 : x < p) : (x * z_inv p x) % p = 1 ∧ 1 ≤ z_inv p x := by
  obtain ⟨q, hq, rfl⟩ := hp
  obtain ⟨n, rfl⟩ := Int.eq_ofNat_of_zero_le (Int.le_of_lt h1)
  exact (z_inv_dec q hq n (by omega)).2 (by omega)
theorem z_inv_zero {p : Int} (hp : z_pr p) : z_inv p 0 = 0 := by
  obtain ⟨q, hq, rfl⟩ := hp
  have := z_pr_le ⟨q, hq, rfl⟩
  exact (z_inv_dec q hq 0 (by omega)).1 rfl
theorem z_inv_rng {p x : Int} (hp : z_pr p) : 0 ≤ z_inv p x ∧ z_inv p x < p := z_m0 (by have := z_pr_le hp; omega)
theorem z_inv_uni {p x y : Int} (hp : z_pr p) (h1 : 0 < x) (h2 : x < p) (h3 : 0 ≤ y) (h4 : y < p) (h : (x * y) % p = 1) : y = z_inv p x := by
  obtain ⟨g1, g2⟩ := z_inv_one hp h1 h2
  obtain ⟨g3, g4⟩ := z_inv_rng (x := x) hp
  have hp5 := z_pr_le hp
  have e1 : (y * (x * z_inv p x)) % p = y := by
    have := z_mmul (p := p) (a := y) (b := y) (c := x * z_inv p x) (d := 1) rfl (by rw [g1]; exact (z_mi (by omega) (by omega)).symm)
    rw [this, Int.mul_one]; exact z_mi h3 h4
  have e2 : (x * y * z_inv p x) % p = z_inv p x := by
    have := z_mmul (p := p) (a := x * y) (b := 1) (c := z_inv p x) (d := z_inv p x) (by rw [h]; exact (z_mi (by omega) (by omega)).symm) rfl
    rw [this, Int.one_mul]; exact z_mi g3 g4
  rw [← e1, ← e2]
  congr 1
  grind
/-- no two numbers that aren't 0 make 0 -/
theorem z_nzd {p x y : Int} (hp : z_pr p) (h1 : 0 < x) (h2 : x < p) (h : (x * y) % p = 0) : y % p = 0 := by
  obtain ⟨g1, g2⟩ := z_inv_one hp h1 h2
  have hp5 := z_pr_le hp
  have e1 : (y * (x * z_inv p x)) % p = y % p := by
    have := z_mmul (p := p) (a := y) (b := y) (c := x * z_inv p x) (d := 1) rfl (by rw [g1]; exact (z_mi (by omega) (by omega)).symm)
    rw [this, Int.mul_one]
  have e2 : (x * y * z_inv p x) % p = 0 := by
    have := z_mmul (p := p) (a := x * y) (b := 0) (c := z_inv p x) (d := z_inv p x) (by rw [h]; rfl) rfl
    rw [this, Int.zero_mul]; rfl
  rw [← e1, ← e2]
  congr 1
  grind
