/-! PURE: orders by values and slopes; a row and the row lowered -/
theorem x_h_add (f h : Nat → Int) (x : Int) : ∀ n e, x_h (fun k => f k + h k) x n e = x_h f x n e + x_h h x n e
  | 0, _ => rfl
  | n + 1, e => by
    show f e + h e + x * x_h (fun k => f k + h k) x n (e + 1) = (f e + x * x_h f x n (e + 1)) + (h e + x * x_h h x n (e + 1))
    rw [x_h_add f h x n (e + 1)]
    grind
theorem x_h_shift (f : Nat → Int) (x : Int) (k : Nat) : ∀ n e, x_h f x n (e + k) = x_h (fun i => f (i + k)) x n e
  | 0, _ => rfl
  | n + 1, e => by
    show f (e + k) + x * x_h f x n (e + k + 1) = f (e + k) + x * x_h (fun i => f (i + k)) x n (e + 1)
    rw [show e + k + 1 = e + 1 + k by omega, x_h_shift f x k n (e + 1)]
theorem x_h_mod {p x : Int} {f h : Nat → Int} : ∀ {n e : Nat}, (∀ i, e ≤ i → i < e + n → f i % p = h i % p) → x_h f x n e % p = x_h h x n e % p
  | 0, _, _ => rfl
  | n + 1, e, g => z_madd (g e (by omega) (by omega)) (z_mmul rfl (x_h_mod (fun i h1 h2 => g i (by omega) (by omega))))
/-- the quotient at x: the slope there -/
theorem x_quo (N : Nat → Int) (x : Int) : ∀ n e, x_h (fun j => x_h N x (e + n - j) (j + 1)) x n e = x_h (fun k => N (k + 1) * ((k : Int) + 1 - e)) x n e
  | 0, _ => rfl
  | n + 1, e => by
    have ih := x_quo N x n (e + 1)
    have e1 : x_h (fun j => x_h N x (e + (n + 1) - j) (j + 1)) x (n + 1) e = x_h N x (n + 1) (e + 1) + x * x_h (fun j => x_h N x (e + 1 + n - j) (j + 1)) x n (e + 1) := by
      show x_h N x (e + (n + 1) - e) (e + 1) + x * x_h (fun j => x_h N x (e + (n + 1) - j) (j + 1)) x n (e + 1) = _
      rw [show e + (n + 1) - e = n + 1 by omega, show e + (n + 1) = e + 1 + n by omega]
    rw [e1, ih, x_h_shift N x 1 (n + 1) e]
    have e2 : x * x_h (fun k => N (k + 1) * ((k : Int) + 1 - ((e + 1 : Nat) : Int))) x n (e + 1) = x_h (fun k => N (k + 1) * ((k : Int) + 1 - ((e + 1 : Nat) : Int))) x (n + 1) e := by
      show _ = N (e + 1) * ((e : Int) + 1 - ((e + 1 : Nat) : Int)) + x * x_h (fun k => N (k + 1) * ((k : Int) + 1 - ((e + 1 : Nat) : Int))) x n (e + 1)
      rw [show (e : Int) + 1 - ((e + 1 : Nat) : Int) = 0 by omega, Int.mul_zero, Int.zero_add]
    rw [e2, ← x_h_add]
    refine x_h_congr fun i _ _ => ?_
    show N (i + 1) + N (i + 1) * ((i : Int) + 1 - ((e + 1 : Nat) : Int)) = N (i + 1) * ((i : Int) + 1 - e)
    rw [show ((e + 1 : Nat) : Int) = (e : Int) + 1 by omega]
    grind
theorem x_q_slope {p x : Int} {N : Nat → Int} : x_h (x_q p x N) x 13 0 % p = s_at p N x := by
  rw [x_h_last]
  have e1 : x_q p x N (0 + 12) = 0 := by
    unfold x_q
    show 0 % p = 0
    exact Int.zero_emod p
  rw [e1, Int.zero_mul, Int.add_zero]
  have e2 := x_quo N x 12 0
  unfold s_at
  have e3 : (fun k => N (k + 1) * ((k : Int) + 1 - ((0 : Nat) : Int))) = fun e => N (e + 1) * ((e : Int) + 1) := by
    funext k
    rw [show (k : Int) + 1 - ((0 : Nat) : Int) = (k : Int) + 1 by omega]
  rw [e3] at e2
  rw [← e2]
  refine x_h_mod fun i _ hi => ?_
  show x_q p x N i % p = x_h N x (0 + 12 - i) (i + 1) % p
  unfold x_q
  rw [z_mm, show 0 + 12 - i = 12 - i by omega]
theorem x_top_neg {f : Nat → Int} (h : x_top f 13 < 0) : ∀ i, i < 13 → f i = 0 := fun i hi => x_top_zero hi (by omega)
theorem s_at_0 {p x : Int} {N : Nat → Int} (h : ∀ i, i < 13 → N i = 0) : s_at p N x = 0 := by
  unfold s_at
  rw [x_h_zero (fun i _ hi => by rw [h (i + 1) (by omega), Int.zero_mul]), Int.zero_emod]
theorem v_at_0 {p x : Int} {N : Nat → Int} (h : ∀ i, i < 13 → N i = 0) : v_at p N x = 0 := by
  unfold v_at
  rw [x_h_zero (fun i _ hi => h i (by omega)), Int.zero_emod]
theorem r_order_1 {p x : Int} {N : Nat → Int} : 1 ≤ r_order p x N ↔ v_at p N x = 0 := by
  unfold r_order
  by_cases h : x_top N 13 < 0
  · rw [if_pos h]
    exact ⟨fun _ => v_at_0 (x_top_neg h), fun _ => by decide⟩
  · rw [if_neg h]
    unfold x_ord
    by_cases h2 : x_h N x 13 0 % p = 0
    · rw [if_pos h2]
      exact ⟨fun _ => h2, fun _ => by omega⟩
    · rw [if_neg h2]
      exact ⟨fun hh => by omega, fun hh => absurd hh h2⟩
theorem r_order_2 {p x : Int} {N : Nat → Int} : 2 ≤ r_order p x N ↔ v_at p N x = 0 ∧ s_at p N x = 0 := by
  unfold r_order
  by_cases h : x_top N 13 < 0
  · rw [if_pos h]
    exact ⟨fun _ => ⟨v_at_0 (x_top_neg h), s_at_0 (x_top_neg h)⟩, fun _ => by decide⟩
  · rw [if_neg h, ← x_q_slope]
    unfold x_ord
    by_cases h2 : x_h N x 13 0 % p = 0
    · rw [if_pos h2]
      unfold x_ord
      by_cases h3 : x_h (x_q p x N) x 13 0 % p = 0
      · rw [if_pos h3]
        exact ⟨fun _ => ⟨h2, h3⟩, fun _ => by omega⟩
      · rw [if_neg h3]
        exact ⟨fun hh => by omega, fun hh => absurd hh.2 h3⟩
    · rw [if_neg h2]
      exact ⟨fun hh => by omega, fun hh => absurd hh.1 h2⟩
/-- N is L, k powers higher -/
def x_up (k : Nat) (L N : Nat → Int) : Prop := (∀ i, i < k → i < 13 → N i = 0) ∧ (∀ i, i + k < 13 → N (i + k) = L i) ∧ ∀ i, i < 13 → 13 ≤ i + k → L i = 0
theorem x_up_h {k : Nat} {L N : Nat → Int} {x : Int} (hk : k ≤ 12) (h : x_up k L N) : ∀ d, d ≤ k → x_h N x (13 - (k - d)) (k - d) = x ^ d * x_h L x 13 0
  | 0, _ => by
    rw [Int.pow_zero, Int.one_mul, Nat.sub_zero]
    have e1 := x_h_shift N x k (13 - k) 0
    rw [Nat.zero_add] at e1
    rw [e1, x_h_tail (f := L) (n := 13) (t := 13 - k) (fun i h1 h2 => h.2.2 i (by omega) (by omega)) (by omega)]
    exact x_h_congr fun i _ hi => h.2.1 i (by omega)
  | d + 1, hd => by
    have ih := x_up_h hk h (x := x) d (by omega)
    have e1 : 13 - (k - (d + 1)) = (13 - (k - d)) + 1 := by omega
    have e2 : k - (d + 1) + 1 = k - d := by omega
    rw [e1]
    show N (k - (d + 1)) + x * x_h N x (13 - (k - d)) (k - (d + 1) + 1) = _
    rw [e2, ih, h.1 (k - (d + 1)) (by omega) (by omega), Int.pow_succ]
    grind
theorem z_pow_nz {p x : Int} (hp : z_pr p) (h0 : 0 < x) (h1 : x < p) : ∀ (d : Nat) (y : Int), (x ^ d * y) % p = 0 → y % p = 0
  | 0, y, h => by rw [Int.pow_zero, Int.one_mul] at h; exact h
  | d + 1, y, h => by
    rw [Int.pow_succ, Int.mul_assoc] at h
    exact z_nzd hp h0 h1 (z_pow_nz hp h0 h1 d (x * y) h)
theorem x_ord_up {p x : Int} (hp : z_pr p) (h0 : 0 < x) (h1 : x < p) {k : Nat} (hk : k ≤ 12) : ∀ (n : Nat) (L N : Nat → Int), x_up k L N → x_ord p x n L = x_ord p x n N
  | 0, _, _, _ => rfl
  | n + 1, L, N, h => by
    have hv := x_up_h (x := x) hk h k (Nat.le_refl _)
    rw [Nat.sub_self, Nat.sub_zero] at hv
    unfold x_ord
    by_cases hL : x_h L x 13 0 % p = 0
    · have hN : x_h N x 13 0 % p = 0 := by
        rw [hv, z_mmul (b := x ^ k) (d := 0) rfl hL, Int.mul_zero]; exact Int.zero_emod p
      rw [if_pos hL, if_pos hN]
      congr 1
      refine x_ord_up hp h0 h1 hk n _ _ ⟨fun i hi hi2 => ?_, fun i hi => ?_, fun i hi hi2 => ?_⟩
      · unfold x_q
        have := x_up_h (x := x) hk h (k - (i + 1)) (by omega)
        rw [show k - (k - (i + 1)) = i + 1 by omega, show 13 - (i + 1) = 12 - i by omega] at this
        rw [this, z_mmul (b := x ^ (k - (i + 1))) (d := 0) rfl hL, Int.mul_zero]
        exact Int.zero_emod p
      · unfold x_q
        have e1 := x_h_shift N x k (12 - (i + k)) (i + 1)
        rw [show i + k + 1 = i + 1 + k by omega, e1, x_h_tail (f := L) (n := 12 - i) (t := 12 - (i + k)) (fun j h1 h2 => h.2.2 j (by omega) (by omega)) (by omega)]
        congr 1
        exact x_h_congr fun j _ hj => h.2.1 j (by omega)
      · unfold x_q
        rw [x_h_zero (fun j h1 h2 => h.2.2 j (by omega) (by omega))]
        exact Int.zero_emod p
    · have hN : ¬ x_h N x 13 0 % p = 0 := fun e => by
        rw [hv] at e
        exact hL (z_pow_nz hp h0 h1 k _ e)
      rw [if_neg hL, if_neg hN]
theorem l_N_up {p : Int} {S : Nat} {N : Nat → Int} (h2 : 1 ≤ x_many S) (hN : x_N p S N) : x_up (x_at S 0) (l_N S N) N := by
  have h0 := x_at_le (S := S) (k := 0) (by omega)
  refine ⟨fun i hi hi2 => hN.2 i (Or.inr fun hb => ?_), fun i _ => ?_, fun i _ hi2 => ?_⟩
  · obtain ⟨k, hk, e⟩ := x_at_ex (S := S) (e := i) hi2 hb
    have := (x_at_le hk).1
    omega
  · unfold l_N; rw [Nat.add_comm]
  · unfold l_N; exact hN.2 _ (Or.inl (by omega))
theorem r_order_low {p x : Int} {S : Nat} {N : Nat → Int} (hp : z_pr p) (h2 : 1 ≤ x_many S) (hN : x_N p S N) (h0 : 0 < x) (h1 : x < p) : r_order p x (l_N S N) = r_order p x N := by
  have hu := l_N_up h2 hN
  have hk := (x_at_le (S := S) (k := 0) (by omega)).2
  unfold r_order
  rw [x_ord_up hp h0 h1 hk 13 _ _ hu]
  have e : (x_top (l_N S N) 13 < 0) ↔ (x_top N 13 < 0) := by
    have r1 := x_top_rng (l_N S N) 13
    have r2 := x_top_rng N 13
    constructor
    · intro h
      have hz := x_top_neg h
      by_cases hh : x_top N 13 < 0
      · exact hh
      · exfalso
        refine x_top_nz (f := N) (n := 13) (by omega) ?_
        obtain ⟨t, et⟩ : ∃ t, (x_top N 13).toNat = t := ⟨_, rfl⟩
        rw [et]
        by_cases ht : t < x_at S 0
        · exact hu.1 t ht (by omega)
        · have := hu.2.1 (t - x_at S 0) (by omega)
          rw [show t - x_at S 0 + x_at S 0 = t by omega, hz _ (by omega)] at this
          exact this
    · intro h
      have hz := x_top_neg h
      by_cases hh : x_top (l_N S N) 13 < 0
      · exact hh
      · exfalso
        refine x_top_nz (f := l_N S N) (n := 13) (by omega) ?_
        obtain ⟨t, et⟩ : ∃ t, (x_top (l_N S N) 13).toNat = t := ⟨_, rfl⟩
        rw [et]
        by_cases ht : t + x_at S 0 < 13
        · rw [← hu.2.1 t ht]; exact hz _ ht
        · exact hu.2.2 t (by omega) (by omega)
  by_cases h : x_top N 13 < 0
  · rw [if_pos h, if_pos (e.mpr h)]
  · rw [if_neg h, if_neg (fun hh => h (e.mp hh))]
def r_set (p : Int) (N : Nat → Int) (least : Int) : Nat := x_bits (fun x => decide (1 ≤ x) && decide (least ≤ r_order p x N)) p.toNat
theorem r_set_1 {p : Int} {N : Nat → Int} : r_set p N 1 = r_roots p N := x_bits_congr fun x _ => by
  rw [decide_eq_decide.mpr r_order_1]
theorem r_set_2 {p : Int} {N : Nat → Int} : r_set p N 2 = r_doubles p N := x_bits_congr fun x _ => by
  rw [decide_eq_decide.mpr r_order_2, Bool.decide_and]
theorem n_rootsOf {m : z_M} {g : z_g} {Q : q_V → q_S → Prop} {p l : Int} {f : Nat → Int} (h : n_P m p) (hl : 1 ≤ l ∧ l ≤ 2) (hR : t_R m 138 f) (hf : x_R p f) (kk : ∀ m', (∀ a j, ¬ a = 139 → m' a j = m a j) → Q (.inl (r_set p f l : Int)) (z_st m' g)) : z_C 217 [.inr (.inr 131), .inl l] (z_st m g) Q := by
  have hp5 := z_pr_le h.1
  have hord : ∀ x, -1 ≤ r_order p x f ∧ r_order p x f ≤ 99 := fun x => by
    unfold r_order
    split
    · omega
    · have : ∀ (n : Nat) (f : Nat → Int), x_ord p x n f ≤ n := fun n => by
        induction n with
        | zero => intro f; exact Nat.le_refl _
        | succ n ih =>
          intro f
          unfold x_ord
          split
          · have := ih (x_q p x f); omega
          · omega
      have := this 13 f
      omega
  have loop : ∀ (d x : Nat) (xi : Int) (m' : z_M), p.toNat - x = d → xi = (x : Int) → 1 ≤ x → (x : Int) ≤ p → (∀ a j, ¬ a = 139 → m' a j = m a j) → z_T 217 4 [.inr (.inr 131), .inl l, .inl (x_bits (fun x => decide (1 ≤ x) && decide (l ≤ r_order p x f)) x : Int), .inl xi] [] (z_st m' g) Q := by
    intro d
    induction d with
    | zero =>
      intro x xi m' hd he h1 h2 f1
      obtain rfl : x = p.toNat := by omega
      have hP : n_P m' p := n_P_fr h ⟨f1 131 1 (by omega), fun a j _ _ => f1 a j (by omega)⟩
      exact y_217_4 (n_p hP (y_217_7 ⟨(by unfold z_ok2; omega), fun _ => kk m' f1, (fun h => absurd h (by omega))⟩))
    | succ d ih =>
      intro x xi m' hd he h1 h2 f1
      have hP : n_P m' p := n_P_fr h ⟨f1 131 1 (by omega), fun a j _ _ => f1 a j (by omega)⟩
      have hb := x_bits_lt (fun x => decide (1 ≤ x) && decide (l ≤ r_order p x f)) x
      have h30 : 2 ^ x ≤ 2 ^ 30 := Nat.pow_le_pow_right (by decide) (by omega)
      refine y_217_4 (n_p hP (y_217_7 ⟨(by unfold z_ok2; omega), (fun h => absurd h (by omega)), fun _ => n_orderOf hP (fun i hi => by rw [f1 138 i (by omega)]; exact hR i hi) hf (by omega) (by omega) fun m2 g1 => y_217_12 ?_⟩))
      have ho := hord xi
      have f2 : ∀ a j, ¬ a = 139 → m2 a j = m a j := fun a j ha => by rw [g1 a j ha, f1 a j ha]
      have ih := ih (x + 1) (xi + 1) m2 (by omega) (by omega) (by omega) (by omega) f2
      unfold x_bits at ih
      refine ⟨(by unfold z_ok2; omega), fun hlt => ?_, fun hle => ?_⟩
      · rw [if_neg (by rw [← he]; simp; intro _; exact hlt)] at ih
        have e : q_bin 4 (x_bits (fun x => decide (1 ≤ x) && decide (l ≤ r_order p x f)) x : Int) 0 = (x_bits (fun x => decide (1 ≤ x) && decide (l ≤ r_order p x f)) x : Int) := by
          have := q_b_or (a := x_bits (fun x => decide (1 ≤ x) && decide (l ≤ r_order p x f)) x) (b := 0) (by omega) (by decide)
          rw [Nat.or_zero] at this
          exact this
        rw [e]
        exact ih
      · rw [if_pos (by rw [← he]; simp [h1, hle])] at ih
        have e := q_b_add (a := x_bits (fun x => decide (1 ≤ x) && decide (l ≤ r_order p x f)) x) (n := x) hb (by omega)
        rw [he, e]
        rw [he] at ih
        exact ih
  exact y_217 (loop _ 1 1 m rfl rfl (by omega) (by omega) (fun _ _ _ => rfl))
