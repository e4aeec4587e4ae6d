/-! CONTRACTS of the class: LOWERED, ITS SLOPE, orders -/
def l_N (S : Nat) (N : Nat → Int) : Nat → Int := fun i => N (x_at S 0 + i)
def l_D (p : Int) (L : Nat → Int) : Nat → Int := fun i => (((i : Int) + 1) * L (i + 1)) % p
/-- the highest place below n that isn't 0; -1 -/
def x_top (f : Nat → Int) : Nat → Int
  | 0 => -1
  | n + 1 => if f n = 0 then x_top f n else n
theorem x_top_rng (f : Nat → Int) : ∀ n : Nat, -1 ≤ x_top f n ∧ x_top f n < n
  | 0 => by simp [x_top]
  | n + 1 => by
    have := x_top_rng f n
    unfold x_top
    split <;> omega
theorem x_top_congr {f h : Nat → Int} : ∀ {n : Nat}, (∀ k, k < n → f k = h k) → x_top f n = x_top h n
  | 0, _ => rfl
  | n + 1, e => by
    unfold x_top
    rw [x_top_congr (n := n) (fun k hk => e k (by omega)), e n (by omega)]
theorem x_top_zero {f : Nat → Int} : ∀ {n : Nat} {k : Nat}, k < n → x_top f n < k → f k = 0
  | 0, _, h, _ => absurd h (by omega)
  | n + 1, k, h, ht => by
    unfold x_top at ht
    by_cases h0 : f n = 0
    · rw [if_pos h0] at ht
      by_cases hk : k = n
      · rw [hk]; exact h0
      · exact x_top_zero (n := n) (by omega) ht
    · rw [if_neg h0] at ht; omega
theorem x_top_nz {f : Nat → Int} : ∀ {n : Nat}, 0 ≤ x_top f n → ¬ f (x_top f n).toNat = 0
  | 0, h => absurd h (by simp [x_top])
  | n + 1, h => by
    unfold x_top at h ⊢
    by_cases h0 : f n = 0
    · rw [if_pos h0] at h ⊢; exact x_top_nz h
    · rw [if_neg h0]; exact h0
theorem x_top_of {f : Nat → Int} {n t : Nat} (ht : t < n) (h0 : ¬ f t = 0) (hz : ∀ k, t < k → k < n → f k = 0) : x_top f n = t := by
  have h1 := x_top_rng f n
  rcases Int.lt_trichotomy (x_top f n) t with h | h | h
  · exact absurd (x_top_zero ht h) h0
  · exact h
  · have h2 := x_top_nz (f := f) (n := n) (by omega)
    exact absurd (hz (x_top f n).toNat (by omega) (by omega)) h2
def x_q (p x : Int) (f : Nat → Int) : Nat → Int := fun j => x_h f x (12 - j) (j + 1) % p
def x_ord (p x : Int) : Nat → (Nat → Int) → Nat
  | 0, _ => 0
  | n + 1, f => if x_h f x 13 0 % p = 0 then x_ord p x n (x_q p x f) + 1 else 0
/-- a row of 13 at a place -/
def t_R (m : z_M) (a : Nat) (f : Nat → Int) : Prop := ∀ i, i < 13 → m a i = f i
def x_R (p : Int) (f : Nat → Int) : Prop := ∀ i, i < 13 → 0 ≤ f i ∧ f i < p
theorem x_q_R {p x : Int} {f : Nat → Int} (hp : z_pr p) : x_R p (x_q p x f) := fun i _ => z_m0 (by have := z_pr_le hp; omega)
theorem c_topOf_a {m : z_M} {g : z_g} {Q : q_V → q_S → Prop} {f : Nat → Int} {p : Int} (hp : z_pr p) (hR : t_R m 73 f) (hf : x_R p f) (kk : Q (.inl (x_top f 13)) (z_st m g)) : z_C 70 [.inr (.inr 73)] (z_st m g) Q := by
  have hp5 := z_pr_le hp
  have loop : ∀ (n : Nat) (i : Int), i = (n : Int) - 1 → n ≤ 13 → x_top f 13 = x_top f n → z_T 70 5 [.inr (.inr 73), .inl i] [] (z_st m g) Q := by
    intro n
    induction n with
    | zero =>
      intro i hi hn ht
      rw [ht] at kk
      exact y_70a_5 ⟨(by unfold z_ok; omega), fun _ => kk, (fun h => absurd h (by omega))⟩
    | succ n ih =>
      intro i hi hn ht
      have h1 := hR n (by omega)
      have h2 := hf n (by omega)
      refine y_70a_5 ⟨(by unfold z_ok; omega), (fun h => absurd h (by omega)), fun _ => ⟨⟨by omega, by omega⟩, ?_⟩⟩
      rw [show i.toNat = n by omega, h1]
      unfold x_top at ht
      refine ⟨(by unfold z_ok; omega), fun h0 => ?_, fun h0 => ?_⟩
      · rw [if_pos h0] at ht
        exact ih _ (by omega) (by omega) ht
      · rw [if_neg h0] at ht
        rw [show i = (n : Int) by omega, ← ht]
        exact kk
  exact y_70a (loop 13 _ (by decide) (by decide) rfl)
theorem c_topOf_b {m : z_M} {g : z_g} {Q : q_V → q_S → Prop} {f : Nat → Int} {p : Int} (hp : z_pr p) (hR : t_R m 74 f) (hf : x_R p f) (kk : Q (.inl (x_top f 13)) (z_st m g)) : z_C 70 [.inr (.inr 74)] (z_st m g) Q := by
  have hp5 := z_pr_le hp
  have loop : ∀ (n : Nat) (i : Int), i = (n : Int) - 1 → n ≤ 13 → x_top f 13 = x_top f n → z_T 70 5 [.inr (.inr 74), .inl i] [] (z_st m g) Q := by
    intro n
    induction n with
    | zero =>
      intro i hi hn ht
      rw [ht] at kk
      exact y_70b_5 ⟨(by unfold z_ok; omega), fun _ => kk, (fun h => absurd h (by omega))⟩
    | succ n ih =>
      intro i hi hn ht
      have h1 := hR n (by omega)
      have h2 := hf n (by omega)
      refine y_70b_5 ⟨(by unfold z_ok; omega), (fun h => absurd h (by omega)), fun _ => ⟨⟨by omega, by omega⟩, ?_⟩⟩
      rw [show i.toNat = n by omega, h1]
      unfold x_top at ht
      refine ⟨(by unfold z_ok; omega), fun h0 => ?_, fun h0 => ?_⟩
      · rw [if_pos h0] at ht
        exact ih _ (by omega) (by omega) ht
      · rw [if_neg h0] at ht
        rw [show i = (n : Int) by omega, ← ht]
        exact kk
  exact y_70b (loop 13 _ (by decide) (by decide) rfl)
theorem c_divideBy {m : z_M} {g : z_g} {Q : q_V → q_S → Prop} {p x : Int} {f : Nat → Int} (hp : z_pr p) (hF : m 29 0 = p) (hR : t_R m 74 f) (hf : x_R p f) (h0 : 0 ≤ x) (h1 : x < p) (kk : ∀ m', (∀ a j, ¬ a = 74 → m' a j = m a j) → t_R m' 74 (x_q p x f) → Q (.inl (x_h f x 13 0 % p)) (z_st m' g)) : z_C 76 [.inr (.inr 70), .inl x] (z_st m g) Q := by
  have hp5 := z_pr_le hp
  have loop : ∀ (n : Nat) (i c : Int) (m' : z_M) (v : q_V), i = (n : Int) - 1 → n ≤ 13 → (∀ a j, ¬ a = 74 → m' a j = m a j) → (∀ j, j < n → m' 74 j = f j) → (∀ j, n ≤ j → j < 13 → m' 74 j = x_q p x f j) → c = x_h f x (13 - n) n % p → z_T 76 8 [.inr (.inr 70), .inl x, .inl c, .inl i, v] [] (z_st m' g) Q := by
    intro n
    induction n with
    | zero =>
      intro i c m' v hi hn f1 f2 f3 hc
      rw [hc]
      exact y_76_8 ⟨(by unfold z_ok; omega), fun _ => kk m' f1 (fun j hj => f3 j (by omega) hj), (fun h => absurd h (by omega))⟩
    | succ n ih =>
      intro i c m' v hi hn f1 f2 f3 hc
      have h2 := hf n (by omega)
      have h3 := f2 n (by omega)
      have h4 : 0 ≤ c ∧ c < p := by rw [hc]; exact z_m0 (by omega)
      have h5 : 0 ≤ c * x ∧ c * x ≤ 31 * 31 := ⟨Int.mul_nonneg (by omega) (by omega), Int.mul_le_mul (by omega) (by omega) (by omega) (by omega)⟩
      refine y_76_8 ⟨(by unfold z_ok; omega), (fun h => absurd h (by omega)), fun _ => ⟨⟨by omega, by omega⟩, ⟨by omega, by omega⟩, ?_⟩⟩
      rw [show i.toNat = n by omega, h3]
      refine c_mod' hp (by show q_upd m' 74 n c 29 0 = p; unfold q_upd; rw [if_neg (by omega), f1 29 0 (by omega)]; exact hF) (by unfold z_ok; omega) (y_76_28 ?_)
      refine ih _ _ _ _ (by omega) (by omega) ?_ ?_ ?_ ?_
      · intro a j ha
        unfold q_upd
        rw [if_neg (by omega)]
        exact f1 a j ha
      · intro j hj
        unfold q_upd
        rw [if_neg (by omega)]
        exact f2 j (by omega)
      · intro j hj1 hj2
        unfold q_upd
        by_cases hjn : j = n
        · rw [if_pos ⟨rfl, hjn⟩, hc, hjn]
          show _ = x_h f x (12 - n) (n + 1) % p
          rw [show 13 - (n + 1) = 12 - n by omega]
        · rw [if_neg (by omega)]
          exact f3 j (by omega) hj2
      · rw [hc, Int.add_comm]
        rw [x_hstep f x (13 - (n + 1)) n, show 13 - (n + 1) + 1 = 13 - n by omega]
  exact y_76 (loop 13 _ 0 m _ (by decide) (by decide) (fun _ _ _ => rfl) (fun j hj => hR j hj) (fun j h1 h2 => by omega) (by simp [x_h]))
/-- how often (X less x) divides a row -/
def r_order (p x : Int) (f : Nat → Int) : Int := if x_top f 13 < 0 then 99 else x_ord p x 13 f
theorem c_orderAt {m : z_M} {g : z_g} {Q : q_V → q_S → Prop} {p x : Int} {f : Nat → Int} (hp : z_pr p) (hF : m 29 0 = p) (hR : t_R m 71 f) (hf : x_R p f) (h0 : 0 ≤ x) (h1 : x < p) (kk : ∀ m', (∀ a j, ¬ a = 74 → m' a j = m a j) → Q (.inl (r_order p x f)) (z_st m' g)) : z_C 75 [.inr (.inr 70), .inl x] (z_st m g) Q := by
  have hp5 := z_pr_le hp
  have loop : ∀ (n : Nat) (i : Int) (f' : Nat → Int) (m' : z_M), i = 13 - (n : Int) → n ≤ 13 → (∀ a j, ¬ a = 74 → m' a j = m a j) → t_R m' 74 f' → x_R p f' → (∀ m', (∀ a j, ¬ a = 74 → m' a j = m a j) → Q (.inl (i + x_ord p x n f')) (z_st m' g)) → z_T 75 18 [.inr (.inr 70), .inl x, .inl i] [] (z_st m' g) Q := by
    intro n
    induction n with
    | zero =>
      intro i f' m' hi hn f1 f2 f3 kk
      have k1 := kk m' f1
      rw [show i + ((x_ord p x 0 f' : Nat) : Int) = i by show i + 0 = i; omega] at k1
      exact y_75_18 ⟨(by unfold z_ok2; omega), fun _ => k1, (fun h => absurd h (by omega))⟩
    | succ n ih =>
      intro i f' m' hi hn f1 f2 f3 kk
      have h4 := z_m0 (p := p) (a := x_h f' x 13 0) (by omega)
      refine y_75_18 ⟨(by unfold z_ok2; omega), (fun h => absurd h (by omega)), fun _ => c_divideBy hp (by rw [f1 29 0 (by omega)]; exact hF) f2 f3 h0 h1 fun m2 g1 g2 => ?_⟩
      have g3 : ∀ a j, ¬ a = 74 → m2 a j = m a j := fun a j ha => by rw [g1 a j ha, f1 a j ha]
      refine y_75_24 ⟨(by unfold z_ok; omega), fun hne => ?_, fun heq => ?_⟩
      · have k1 := kk m2 g3
        unfold x_ord at k1
        rw [if_neg hne] at k1
        rw [show i + ((0 : Nat) : Int) = i by omega] at k1
        exact k1
      · refine ih (i + 1) (x_q p x f') m2 (by omega) (by omega) g3 g2 (x_q_R hp) fun m3 g4 => ?_
        have k1 := kk m3 g4
        unfold x_ord at k1
        rw [if_pos heq] at k1
        rw [show i + 1 + (x_ord p x n (x_q p x f') : Int) = i + ((x_ord p x n (x_q p x f') + 1 : Nat) : Int) by omega]
        exact k1
  have hc : ∀ a j, ¬ a = 74 → (q_cpy m 71 0 74 0 13) a j = m a j := fun a j ha => by
    unfold q_cpy
    rw [if_neg (by omega)]
  have hR4 : t_R (q_cpy m 71 0 74 0 13) 74 f := fun i hi => by
    unfold q_cpy
    rw [if_pos (by omega), show 0 + (i - 0) = i by omega]
    exact hR i hi
  refine y_75 ⟨by decide, c_topOf_b (f := f) hp hR4 hf (y_75_13 ?_)⟩
  have ht := x_top_rng f 13
  refine ⟨(by unfold z_ok; omega), fun hn => ?_, fun hn => ?_⟩
  · refine loop 13 0 f _ (by decide) (by decide) hc hR4 hf fun m' g1 => ?_
    have k1 := kk m' g1
    unfold r_order at k1
    rw [if_neg (by omega)] at k1
    rw [Int.zero_add]
    exact k1
  · have k1 := kk _ hc
    unfold r_order at k1
    rw [if_pos hn] at k1
    exact k1
theorem l_N_R {p : Int} {S : Nat} {N : Nat → Int} (hN : x_N p S N) : x_R p (l_N S N) := fun i _ => hN.1 _
theorem c_lowered {m : z_M} {g : z_g} {Q : q_V → q_S → Prop} {p : Int} {S : Nat} {N : Nat → Int} (hS : x_V S) (hT : t_TT m p S N) (hN : x_N p S N) (hz : m 72 12 = 0) (kk : ∀ m', (∀ a j, (a < 70 ∨ 72 < a) → m' a j = m a j) → m' 70 1 = (x_at S (x_many S - 1) : Int) - (x_at S 0 : Int) → t_R m' 71 (l_N S N) → t_R m' 72 (l_D p (l_N S N)) → Q q_dead (z_st m' g)) : z_C 66 [.inr (.inr 70), .inr (.inr 65)] (z_st m g) Q := by
  have hp := hT.1.1
  have hp5 := z_pr_le hp
  obtain ⟨hS1, h2, h6⟩ := hS
  have hTm : ∀ m' : z_M, (∀ a j, (a < 70 ∨ 72 < a) → m' a j = m a j) → t_TT m' p S N := fun m' f => by
    obtain ⟨⟨t1, t2, t3, t4⟩, ⟨t5, t6⟩, t7⟩ := hT
    refine ⟨⟨t1, by rw [f 29 0 (by omega)]; exact t2, fun x e hx he => by rw [f (31 + x) e (by omega)]; exact t3 x e hx he, fun x hx => by rw [f 62 x (by omega)]; exact t4 x hx⟩, ⟨by rw [f 66 1 (by omega)]; exact t5, fun k hk => by rw [f 67 k (by omega)]; exact t6 k hk⟩, fun k hk => by rw [f 68 k (by omega)]; exact t7 k hk⟩
  -- the slope
  have loop2 : ∀ (d n : Nat) (i : Int) (m' : z_M) (v : q_V), 12 - n = d → i = (n : Int) → n ≤ 12 → (∀ a j, (a < 70 ∨ 72 < a) → m' a j = m a j) → m' 70 1 = (x_at S (x_many S - 1) : Int) - (x_at S 0 : Int) → t_R m' 71 (l_N S N) → m' 72 12 = 0 → (∀ j, j < n → m' 72 j = l_D p (l_N S N) j) → z_T 66 42 [.inr (.inr 70), .inr (.inr 65), .inr (.inr 66), .inl i, v] [] (z_st m' g) Q := by
    intro d
    induction d with
    | zero =>
      intro n i m' v hd hi hn f1 f2 f3 f4 f5
      refine y_66_42 ⟨(by unfold z_ok2; omega), fun _ => kk m' f1 f2 f3 fun j hj => ?_, (fun h => absurd h (by omega))⟩
      by_cases h : j < n
      · exact f5 j h
      · have hj : j = 12 := by omega
        rw [hj, f4]
        unfold l_D l_N
        rw [hN.2 _ (Or.inl (by omega)), Int.mul_zero]
        rfl
    | succ d ih =>
      intro n i m' v hd hi hn f1 f2 f3 f4 f5
      have a1 := f3 (n + 1) (by omega)
      have a2 := l_N_R hN (n + 1) (by omega)
      have a3 := x_mul_rng (a := i + 1) (b := l_N S N (n + 1)) (A := 12) (B := 31) (by omega) (by omega) (by omega) (by omega)
      refine y_66_42 ⟨(by unfold z_ok2; omega), (fun h => absurd h (by omega)), fun _ => ⟨⟨by omega, by omega⟩, ?_⟩⟩
      rw [show (i + 1).toNat = n + 1 by omega, a1]
      refine c_product hp (hTm m' f1).1.2.1 (by unfold z_ok; omega) (y_66_64 ⟨⟨by omega, by omega⟩, ?_⟩)
      refine ih (n + 1) _ _ _ (by omega) (by omega) (by omega) ?_ ?_ ?_ ?_ ?_
      · intro a j ha
        unfold q_upd
        rw [if_neg (by omega)]
        exact f1 a j ha
      · exact f2
      · exact f3
      · unfold q_upd
        rw [if_neg (by omega)]
        exact f4
      · intro j hj
        unfold q_upd
        by_cases hjn : j = n
        · rw [if_pos ⟨rfl, by omega⟩, hjn, hi]
          rfl
        · rw [if_neg (by omega)]
          exact f5 j (by omega)
  -- the numbers
  have loop : ∀ (d n : Nat) (i : Int) (m' : z_M) (v : q_V), x_many S - n = d → i = (n : Int) → n ≤ x_many S → (∀ a j, (a < 70 ∨ 72 < a) → m' a j = m a j) → m' 70 1 = (x_at S (x_many S - 1) : Int) - (x_at S 0 : Int) → (∀ k, k < n → m' 71 (x_at S k - x_at S 0) = N (x_at S k)) → (∀ j, j < 13 → (∀ k, k < n → ¬ j = x_at S k - x_at S 0) → m' 71 j = 0) → m' 72 12 = 0 → z_T 66 13 [.inr (.inr 70), .inr (.inr 65), .inr (.inr 66), .inl i, v] [] (z_st m' g) Q := by
    intro d
    induction d with
    | zero =>
      intro n i m' v hd hi hn f1 f2 f3 f4 f5
      obtain rfl : n = x_many S := by omega
      have e1 := (hTm m' f1).2.1.1
      refine y_66_13 ⟨(by unfold z_ok2; omega), fun _ => loop2 12 0 0 m' _ rfl rfl (by omega) f1 f2 ?_ f5 (fun j hj => by omega), (fun h => absurd h (by omega))⟩
      intro j hj
      unfold l_N
      by_cases hb : x_at S 0 + j < 13 ∧ S.testBit (x_at S 0 + j) = true
      · obtain ⟨k, hk, hk2⟩ := x_at_ex hb.1 hb.2
        have := f3 k hk
        rw [hk2, show x_at S 0 + j - x_at S 0 = j by omega] at this
        exact this
      · rw [hN.2 (x_at S 0 + j) (by
          by_cases h : x_at S 0 + j < 13
          · exact Or.inr (fun e => hb ⟨h, e⟩)
          · exact Or.inl (by omega))]
        refine f4 j hj fun k hk e => hb ?_
        have b1 := x_at_le (S := S) hk
        have b2 := x_at_mem (S := S) hk
        have b3 : x_at S 0 + j = x_at S k := by omega
        rw [b3]; exact b2
    | succ d ih =>
      intro n i m' v hd hi hn f1 f2 f3 f4 f5
      have hT' := hTm m' f1
      have e1 := hT'.2.1.1
      have b1 := x_at_le (S := S) (k := n) (by omega)
      refine y_66_13 ⟨(by unfold z_ok2; omega), (fun h => absurd h (by omega)), fun _ => c_eat_b h6 hT'.2.1 (by omega) (by omega) (y_66_20 (c_first_b h6 hT'.2.1 (by omega) (y_66_22 ?_)))⟩
      rw [show i.toNat = n by omega]
      refine ⟨(by unfold z_ok; omega), (fun h => absurd h (by omega)), fun _ => ⟨(by unfold z_ok2; omega), (fun h => absurd h (by omega)), fun _ => c_numberAt h6 hT' (by omega) (by omega) (y_66_37 ⟨⟨by omega, by omega⟩, ?_⟩)⟩⟩
      rw [show i.toNat = n by omega, show ((x_at S n : Int) - (x_at S 0 : Int)).toNat = x_at S n - x_at S 0 by omega]
      refine ih (n + 1) _ _ _ (by omega) (by omega) (by omega) ?_ ?_ ?_ ?_ ?_
      · intro a j ha
        unfold q_upd
        rw [if_neg (by omega)]
        exact f1 a j ha
      · exact f2
      · intro k hk
        unfold q_upd
        by_cases hkn : k = n
        · rw [hkn, if_pos ⟨rfl, rfl⟩]
        · have b2 := x_at_lt (S := S) (i := k) (j := n) (by omega) (by omega)
          have b3 := x_at_le (S := S) (k := k) (by omega)
          rw [if_neg (by omega)]
          exact f3 k (by omega)
      · intro j hj hne
        have := hne n (by omega)
        unfold q_upd
        rw [if_neg (by omega)]
        exact f4 j hj fun k hk => hne k (by omega)
      · exact f5
  refine y_66 (c_span_b h6 hT.2.1 (by omega) (y_66_6 (c_fillI (n := 13) (by decide) rfl (by decide) (y_66_11 ?_))))
  refine loop _ 0 0 _ _ rfl rfl (by omega) ?_ ?_ (fun k hk => by omega) ?_ ?_
  · intro a j ha
    unfold f_fill q_upd
    rw [if_neg (by omega), if_neg (by omega)]
  · rfl
  · intro j hj _
    unfold f_fill
    rw [if_pos ⟨rfl, hj⟩]
  · exact hz
