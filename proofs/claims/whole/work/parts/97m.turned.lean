/-! PAIRS: turned -/
theorem x_many_ge {S : Nat} (a : Nat → Nat) : ∀ n, (∀ k, k < n → a k < 13 ∧ S.testBit (a k) = true) → (∀ k, k + 1 < n → a k < a (k + 1)) → n ≤ x_many S := by
  intro n h hm
  have key : ∀ k, k < n → k ≤ (x_pre S (a k)).length := by
    intro k
    induction k with
    | zero => exact fun _ => Nat.zero_le _
    | succ k ih =>
      intro hk
      have h1 := ih (by omega)
      have h2 : (x_pre S (a k + 1)).length = (x_pre S (a k)).length + 1 := by
        rw [x_pre_t (h k (by omega)).2, List.length_append]; rfl
      have h3 := x_pre_len (S := S) (a := a k + 1) (b := a (k + 1)) (hm k hk)
      omega
  cases n with
  | zero => exact Nat.zero_le _
  | succ n =>
    have h1 := key n (by omega)
    have h2 := x_pre_lt (h n (by omega)).1 (h n (by omega)).2
    omega
def t_b (S c : Nat) : Nat → Nat
  | 0 => 0
  | k + 1 => t_b S c k ||| 2 ^ (c - x_at S k)
theorem t_b_bit {S c e : Nat} : ∀ k, ((t_b S c k).testBit e = true ↔ ∃ i, i < k ∧ c - x_at S i = e) := by
  intro k
  induction k with
  | zero =>
    unfold t_b
    rw [Nat.zero_testBit]
    exact ⟨fun h => absurd h (by decide), fun ⟨i, hi, _⟩ => absurd hi (by omega)⟩
  | succ k ih =>
    unfold t_b
    rw [Nat.testBit_or, Nat.testBit_two_pow, Bool.or_eq_true, ih, decide_eq_true_eq]
    constructor
    · rintro (⟨i, hi, he⟩ | h)
      · exact ⟨i, by omega, he⟩
      · exact ⟨k, by omega, h⟩
    · rintro ⟨i, hi, he⟩
      by_cases hik : i = k
      · subst hik; exact Or.inr he
      · exact Or.inl ⟨i, by omega, he⟩
theorem t_b_lt {S c : Nat} : ∀ k, (∀ i, i < k → c - x_at S i ≤ 12) → t_b S c k < 8192 := by
  intro k
  induction k with
  | zero => intro _; unfold t_b; decide
  | succ k ih =>
    intro h
    unfold t_b
    have h1 := ih (fun i hi => h i (by omega))
    have h2 : 2 ^ (c - x_at S k) < 2 ^ 13 := Nat.pow_lt_pow_right (by decide) (by have := h k (by omega); omega)
    exact Nat.or_lt_two_pow (n := 13) h1 h2
theorem t_b_step {t e : Nat} (ht : t < 8192) (he : e ≤ 12) : q_bin 4 (t : Int) (q_bin 6 1 (e : Int)) = ((t ||| 2 ^ e : Nat) : Int) := by
  have h3 : 2 ^ e ≤ 2 ^ 12 := Nat.pow_le_pow_right (by decide) he
  have h1 : q_bin 6 1 (e : Int) = ((1 * 2 ^ e : Nat) : Int) := q_b_shl (a := 1) (by omega) (by omega)
  rw [h1, Nat.one_mul]
  exact q_b_or (by omega) (by omega)
/-- the mirrored support -/
def x_c (S : Nat) : Nat := x_at S 0 + x_at S (x_many S - 1)
def x_mir (S : Nat) : Nat := t_b S (x_c S) (x_many S)
theorem x_c_rng {S k : Nat} (hk : k < x_many S) : x_at S k ≤ x_c S ∧ x_c S - x_at S k ≤ 12 ∧ x_c S - (x_c S - x_at S k) = x_at S k := by
  have h1 := x_at_le hk
  have h2 : x_at S k ≤ x_at S (x_many S - 1) := by
    by_cases h : k = x_many S - 1
    · rw [h]; exact Nat.le_refl _
    · have := x_at_lt (S := S) (i := k) (j := x_many S - 1) (by omega) (by omega); omega
  have h3 := x_at_le (S := S) (k := x_many S - 1) (by omega)
  unfold x_c
  omega
theorem x_mir_V {S : Nat} (h : x_V S) : x_V (x_mir S) := by
  obtain ⟨s1, s2, s3⟩ := h
  have h1 : x_many S ≤ x_many (x_mir S) := by
    refine x_many_ge (fun k => x_c S - x_at S (x_many S - 1 - k)) _ (fun k hk => ?_) (fun k hk => ?_)
    · have := x_c_rng (S := S) (k := x_many S - 1 - k) (by omega)
      exact ⟨by omega, (t_b_bit _).2 ⟨x_many S - 1 - k, by omega, rfl⟩⟩
    · have h1 := x_c_rng (S := S) (k := x_many S - 1 - k) (by omega)
      have h2 := x_at_lt (S := S) (i := x_many S - 1 - (k + 1)) (j := x_many S - 1 - k) (by omega) (by omega)
      omega
  have h2 : x_many (x_mir S) ≤ x_many S := by
    refine x_many_ge (fun k => x_c S - x_at (x_mir S) (x_many (x_mir S) - 1 - k)) _ (fun k hk => ?_) (fun k hk => ?_)
    · obtain ⟨g1, g2⟩ := x_at_mem (S := x_mir S) (k := x_many (x_mir S) - 1 - k) (by omega)
      obtain ⟨i, hi, he⟩ := (t_b_bit _).1 g2
      have h3 := x_c_rng hi
      have h4 := x_at_mem hi
      show x_c S - x_at (x_mir S) (x_many (x_mir S) - 1 - k) < 13 ∧ S.testBit (x_c S - x_at (x_mir S) (x_many (x_mir S) - 1 - k)) = true
      rw [← he, h3.2.2]
      exact h4
    · obtain ⟨g1, g2⟩ := x_at_mem (S := x_mir S) (k := x_many (x_mir S) - 1 - k) (by omega)
      obtain ⟨i, hi, he⟩ := (t_b_bit _).1 g2
      have h3 := x_c_rng hi
      have h4 := x_at_lt (S := x_mir S) (i := x_many (x_mir S) - 1 - (k + 1)) (j := x_many (x_mir S) - 1 - k) (by omega) (by omega)
      omega
  exact ⟨t_b_lt _ (fun i hi => (x_c_rng hi).2.1), by omega, by omega⟩
/-- the class: mirrored numbers into place 130 -/
theorem c_mirror {m : z_M} {g : z_g} {Q : q_V → q_S → Prop} {s p : Int} {S : Nat} {N : Nat → Int} (hS : x_V S) (hT : t_TT m p S N) (kk : ∀ m', t_sam 130 130 m m' → (∀ k, k < x_many S → m' 130 (x_c S - x_at S k) = N (x_at S k)) → (∀ e, e < 13 → (∀ k, k < x_many S → ¬ x_c S - x_at S k = e) → m' 130 e = 0) → ∀ Q' : q_V → q_S → Prop, (∀ v m'' g'', Q (.inl v) (z_st m'' g'') → Q' (.inl v) (z_st m'' g'')) → z_C 119 [.inr (.inr 0), .inl (x_mir S : Int)] (z_st m' g) Q') : z_T 118 9 [.inr (.inr 0), .inl s, q_dead, q_dead, q_dead, q_dead, q_dead] [] (z_st m g) Q := by
  obtain ⟨s1, s2, s3⟩ := hS
  have hE := hT.2.1
  refine y_118_9 (c_first_b s3 hE (by omega) (y_118_15 (c_last_b s3 hE (by omega) (y_118_17 (c_fillI (n := 14) (by decide) rfl (by decide) (y_118_25 ?_))))))
  have f2 : t_sam 130 130 m (f_fill m 130 14 0) := fun b j h => by unfold f_fill; rw [if_neg (by omega)]
  have f3 : ∀ e, e < 14 → f_fill m 130 14 0 130 e = 0 := fun e he => by unfold f_fill; rw [if_pos ⟨rfl, he⟩]
  generalize f_fill m 130 14 0 = m2 at f2 f3
  have ec : (x_at S 0 : Int) + (x_at S (x_many S - 1) : Int) = (x_c S : Int) := by unfold x_c; omega
  rw [ec]
  have loop : ∀ (d k : Nat) (ki : Int) (m3 : z_M) (da6 : q_V), x_many S - k = d → ki = (k : Int) → k ≤ x_many S → t_sam 130 130 m m3 → (∀ i, i < k → m3 130 (x_c S - x_at S i) = N (x_at S i)) → (∀ e, e < 13 → (∀ i, i < k → ¬ x_c S - x_at S i = e) → m3 130 e = 0) → z_T 118 27 [.inr (.inr 0), .inl s, .inr (.inr 66), .inl (x_c S : Int), .inl (t_b S (x_c S) k : Int), .inl ki, da6] [] (z_st m3 g) Q := by
    intro d
    induction d with
    | zero =>
      intro k ki m3 da6 hd hki hkn q1 q2 q3
      have hkk : k = x_many S := by omega
      subst hkk
      refine y_118_27 ?_
      rw [q1 66 1 (by omega), hE.1]
      refine ⟨(by unfold z_ok2; omega), fun _ => ?_, (fun h => absurd h (by omega))⟩
      exact kk m3 q1 q2 q3 _ (fun v m'' g'' h => y_118_55 h)
    | succ d ih =>
      intro k ki m3 da6 hd hki hkn q1 q2 q3
      have hk : k < x_many S := by omega
      obtain ⟨r1, r2, r3⟩ := x_c_rng hk
      have hT3 : t_TT m3 p S N := t_T_sam hT (by decide) q1
      refine y_118_27 ?_
      rw [q1 66 1 (by omega), hE.1]
      refine ⟨(by unfold z_ok2; omega), (fun h => absurd h (by omega)), fun _ => c_eat_b s3 hT3.2.1 (by omega) (by omega) (y_118_35 ?_)⟩
      rw [show ki.toNat = k by omega, show (x_c S : Int) - (x_at S k : Int) = ((x_c S - x_at S k : Nat) : Int) by omega, t_b_step (t_b_lt k (fun i hi => (x_c_rng (by omega)).2.1)) r2]
      refine c_numberAt s3 hT3 (by omega) (by omega) (y_118_49 ?_)
      rw [show ki.toNat = k by omega]
      refine y_102 ⟨(by unfold z_ok; omega), (fun h => absurd h (by omega)), fun _ => ⟨(by unfold z_ok2; omega), (fun h => absurd h (by omega)), fun _ => ⟨⟨by omega, by omega⟩, y_118_50 (ih (k + 1) (ki + 1) _ _ (by omega) (by omega) (by omega) (fun b j h => by rw [z_un (by omega)]; exact q1 b j h) (fun i hi => ?_) (fun e he hno => ?_))⟩⟩⟩
      · by_cases hik : i = k
        · rw [hik, z_ue rfl (by omega)]
        · have hi' := x_c_rng (S := S) (k := i) (by omega)
          rw [z_un (fun h => hik (x_at_inj (by omega) hk (by omega)))]
          exact q2 i (by omega)
      · rw [z_un (fun h => hno k (by omega) (by omega))]
        exact q3 e he (fun i hi => hno i (by omega))
  exact loop (x_many S) 0 0 m2 _ rfl rfl (by omega) f2 (fun i hi => absurd hi (by omega)) (fun e he _ => f3 e (by omega))
/-- the support that is there already -/
theorem c_find {m : z_M} {g : z_g} {Q : q_V → q_S → Prop} {S : Nat} (hS : S < 8192) (hV : i_V m) (k1 : ∀ i : Nat, (i : Int) < m 1 1 → m 2 i = (S : Int) → (∀ j, j < i → ¬ m 2 j = (S : Int)) → Q (.inl (i : Int)) (z_st m g)) (k0 : (∀ j : Nat, (j : Int) < m 1 1 → ¬ m 2 j = (S : Int)) → Q (.inl (-1)) (z_st m g)) : z_C 120 [.inr (.inr 1), .inl (S : Int)] (z_st m g) Q := by
  have v1 := hV.2.1
  have loop : ∀ (d k : Nat) (ki : Int), (m 1 1).toNat - k = d → ki = (k : Int) → k ≤ (m 1 1).toNat → (∀ j, j < k → ¬ m 2 j = (S : Int)) → z_T 120 2 [.inr (.inr 1), .inl (S : Int), .inl ki] [] (z_st m g) Q := by
    intro d
    induction d with
    | zero => exact fun k ki hd hki hkn q => y_120_2 ⟨(by unfold z_ok2; omega), fun _ => k0 (fun j hj => q j (by omega)), (fun h => absurd h (by omega))⟩
    | succ d ih =>
      intro k ki hd hki hkn q
      obtain ⟨S', e, hx⟩ := hV.2.2.2.2.1 k (by omega)
      have hx1 := hx.1
      have ek : ki.toNat = k := by omega
      refine y_120_2 ⟨(by unfold z_ok2; omega), (fun h => absurd h (by omega)), fun _ => ⟨⟨by omega, by omega⟩, by (rw [ek, e]; unfold z_ok2; omega), fun h => ?_, fun h => ?_⟩⟩
      · rw [ek] at h
        exact ih (k + 1) (ki + 1) (by omega) (by omega) (by omega) (fun j hj => by
          by_cases hjk : j = k
          · subst hjk; exact h
          · exact q j (by omega))
      · rw [ek] at h
        subst hki
        exact k1 k (by omega) h q
  exact y_120 (loop (m 1 1).toNat 0 0 (by omega) rfl (by omega) (fun j hj => absurd hj (by omega)))
/-- the class puts a sum with the numbers of place 130 -/
theorem c_putSum {m : z_M} {g : z_g} {Q : q_V → q_S → Prop} {u n : Int} (e3 : m 1 3 = n) (h0 : 0 ≤ n) (h6 : n < 6) (kk : ∀ m4, (∀ b j, ¬ (b = 109 ∧ j = 0) → ¬ ((b = 3 ∨ b = 4 ∨ b = 5) ∧ j = n.toNat) → ¬ (b = 7 + n.toNat ∧ j < 13) → ¬ (b = 1 ∧ j = 3) → m4 b j = m b j) → (∀ j, j < 13 → m4 (7 + n.toNat) j = m 130 j) → m4 3 n.toNat = u → m4 4 n.toNat = 0 → m4 5 n.toNat = 0 → m4 1 3 = n + 1 → m4 109 0 = 0 → Q (.inl n) (z_st m4 g)) : z_C 103 [.inr (.inr 0), .inl u] (z_st m g) Q := by
  refine y_103 (c_clear (y_103_3 (c_newSum (n := n) (by rw [z_un (by omega)]; exact e3) h0 h6 fun m3 f3 w1 w2 w3 w4 w5 => y_103_9 ?_)))
  have f3' : ∀ b j, ¬ (b = 109 ∧ j = 0) → ¬ ((b = 3 ∨ b = 4 ∨ b = 5) ∧ j = n.toNat) → ¬ (b = 7 + n.toNat ∧ j < 13) → ¬ (b = 1 ∧ j = 3) → m3 b j = m b j := fun b j q1 q2 q3 q4 => by rw [f3 b j q2 q3 q4, z_un q1]
  refine y_104 ⟨(by unfold z_ok; omega), (fun h => absurd h (by omega)), fun _ => ?_⟩
  rw [w5]
  refine ⟨(by unfold z_ok2; omega), (fun h => absurd h (by omega)), fun _ => ⟨by unfold z_ok2; decide, fun h => absurd h (by decide), fun _ => ⟨z_rw6 (by omega) (by omega), ⟨⟨by decide, rfl⟩, z_sp6 (by omega)⟩, by decide, y_103_16 ?_⟩⟩⟩
  have c1 : ∀ b j, ¬ (b = 7 + n.toNat ∧ j < 13) → (q_cpy m3 130 (0 : Int).toNat (7 + n.toNat) (0 : Int).toNat (13 : Int).toNat) b j = m3 b j := fun b j h => q_cp_n (by omega)
  refine kk _ (fun b j q1 q2 q3 q4 => by rw [c1 b j q3, f3' b j q1 q2 q3 q4]) (fun j hj => ?_) ?_ ?_ ?_ ?_ ?_
  · rw [q_cp_e (by omega) (by omega), f3' _ _ (by omega) (by omega) (by omega) (by omega)]
    congr 1
    omega
  · rw [c1 _ _ (by omega)]; exact w1
  · rw [c1 _ _ (by omega)]; exact w2
  · rw [c1 _ _ (by omega)]; exact w3
  · rw [c1 _ _ (by omega)]; exact w5
  · rw [c1 _ _ (by omega), f3 109 0 (by omega) (by omega) (by omega), z_ue rfl rfl]
/-- the model: the same support -/
theorem n_find {m : z_M} {g : z_g} {Q : q_V → q_S → Prop} {S : Nat} {n : Int} (hS : S < 8192) (e3 : m 131 3 = n) (n0 : 0 ≤ n) (n6 : n ≤ 6) (hr : ∀ i : Nat, (i : Int) < n → 0 ≤ m 133 i ∧ m 133 i < 8192) (k1 : ∀ i : Nat, (i : Int) < n → m 133 i = (S : Int) → (∀ j, j < i → ¬ m 133 j = (S : Int)) → Q (.inl (i : Int)) (z_st m g)) (k4 : (∀ j : Nat, (j : Int) < n → ¬ m 133 j = (S : Int)) → n = 6 → Q (.inl (-4)) (z_st m g)) (k0 : (∀ j : Nat, (j : Int) < n → ¬ m 133 j = (S : Int)) → n < 6 → Q (.inl n) (z_st (q_upd (q_upd m 133 n.toNat (S : Int)) 131 3 (n + 1)) g)) : z_C 257 [.inr (.inr 131), .inl (S : Int)] (z_st m g) Q := by
  have loop : ∀ (d k : Nat) (ki : Int), n.toNat - k = d → ki = (k : Int) → k ≤ n.toNat → (∀ j, j < k → ¬ m 133 j = (S : Int)) → z_T 257 2 [.inr (.inr 131), .inl (S : Int), .inl ki] [] (z_st m g) Q := by
    intro d
    induction d with
    | zero =>
      intro k ki hd hki hkn q
      have q' : ∀ j : Nat, (j : Int) < n → ¬ m 133 j = (S : Int) := fun j hj => q j (by omega)
      refine y_257_2 ?_
      rw [e3]
      refine ⟨(by unfold z_ok2; omega), fun _ => ⟨(by unfold z_ok2; omega), fun h => y_193 ?_, fun h => y_257_25 (k4 q' h)⟩, (fun h => absurd h (by omega))⟩
      rw [e3]
      refine ⟨⟨by omega, by omega⟩, y_257_25 ?_⟩
      rw [show n + 1 - 1 = n by omega]
      exact k0 q' (by omega)
    | succ d ih =>
      intro k ki hd hki hkn q
      have hx := hr k (by omega)
      have ek : ki.toNat = k := by omega
      refine y_257_2 ?_
      rw [e3]
      refine ⟨(by unfold z_ok2; omega), (fun h => absurd h (by omega)), fun _ => ⟨⟨by omega, by omega⟩, by (rw [ek]; unfold z_ok2; omega), fun h => ?_, fun h => ?_⟩⟩
      · rw [ek] at h
        exact ih (k + 1) (ki + 1) (by omega) (by omega) (by omega) (fun j hj => by
          by_cases hjk : j = k
          · subst hjk; exact h
          · exact q j (by omega))
      · rw [ek] at h
        subst hki
        exact k1 k (by omega) h q
  exact y_257 (loop n.toNat 0 0 (by omega) rfl (by omega) (fun j hj => absurd hj (by omega)))
/-- the model: mirrored numbers -/
theorem n_mirror {m : z_M} {g : z_g} {Q : q_V → q_S → Prop} {S : Nat} {N : Nat → Int} {s n i : Int} (hS : x_V S) (hR : t_R m 138 N) (n0 : 0 ≤ n) (n6 : n < 6) (kk : ∀ m', (∀ c j, ¬ (c = 137 ∧ 13 * n.toNat ≤ j ∧ j < 13 * n.toNat + 13) → m' c j = m c j) → (∀ e, e < 13 → m' 137 (13 * n.toNat + e) = if (x_mir S).testBit e = true then N (x_c S - e) else 0) → Q (.inl n) (z_st m' g)) : z_T 256 61 [.inr (.inr 131), .inl s, .inl (S : Int), .inl (x_c S : Int), .inl (x_mir S : Int), .inl i, q_dead, q_dead] [.inl n] (z_st m g) Q := by
  have hm := x_mir_V hS
  have loop : ∀ (d k : Nat) (ki : Int) (m3 : z_M), 13 - k = d → ki = (k : Int) → k ≤ 13 → (∀ c j, ¬ (c = 137 ∧ 13 * n.toNat ≤ j ∧ j < 13 * n.toNat + 13) → m3 c j = m c j) → (∀ e, e < k → m3 137 (13 * n.toNat + e) = if (x_mir S).testBit e = true then N (x_c S - e) else 0) → z_T 256 64 [.inr (.inr 131), .inl s, .inl (S : Int), .inl (x_c S : Int), .inl (x_mir S : Int), .inl i, .inl n, .inl ki] [] (z_st m3 g) Q := by
    intro d
    induction d with
    | zero =>
      intro k ki m3 hd hki hkn q1 q2
      have hk : k = 13 := by omega
      subst hk
      exact y_256_64 ⟨(by unfold z_ok2; omega), fun _ => kk m3 q1 q2, (fun h => absurd h (by omega))⟩
    | succ d ih =>
      intro k ki m3 hd hki hkn q1 q2
      have h13 := hm.1
      refine y_256_64 ⟨(by unfold z_ok2; omega), (fun h => absurd h (by omega)), fun _ => n_has (by omega) (by unfold z_ok; omega) (fun _ _ hb => y_256_77 ⟨(by unfold z_ok; omega), (fun h => absurd h (by omega)), fun _ => ?_⟩) (fun hno => y_256_77 ⟨(by unfold z_ok; omega), fun _ => ⟨⟨by omega, by omega⟩, ih (k + 1) (ki + 1) _ (by omega) (by omega) (by omega) (fun c j h => by rw [z_un (by omega)]; exact q1 c j h) (fun e he => ?_)⟩, (fun h => absurd h (by omega))⟩)⟩
      · have hb : (x_mir S).testBit ki.toNat = true := hb
        obtain ⟨i', hi', he'⟩ := (t_b_bit _).1 hb
        have r := x_c_rng hi'
        have r2 := x_at_mem hi'
        refine ⟨⟨by omega, by omega⟩, ⟨by omega, by omega⟩, ih (k + 1) (ki + 1) _ (by omega) (by omega) (by omega) (fun c j h => by rw [z_un (by omega)]; exact q1 c j h) (fun e he => ?_)⟩
        by_cases hek : e = k
        · rw [hek, z_ue rfl (by omega), q1 138 _ (by omega), if_pos (by rw [← show ki.toNat = k by omega]; exact hb), show ((x_c S : Int) - ki).toNat = x_c S - k by omega]
          exact hR _ (by omega)
        · rw [z_un (by omega)]; exact q2 e (by omega)
      · by_cases hek : e = k
        · rw [hek, z_ue rfl (by omega), if_neg (fun hb => hno ⟨by omega, by omega, by rw [show ki.toNat = k by omega]; exact hb⟩)]
        · rw [z_un (by omega)]; exact q2 e (by omega)
  exact y_256_61 (loop 13 0 0 m rfl rfl (by omega) (fun _ _ _ => rfl) (fun e he => absurd he (by omega)))
/-- the model: the bits of the mirrored support -/
theorem n_mirBits {m : z_M} {g : z_g} {Q : q_V → q_S → Prop} {S : Nat} {s : Int} (hS : x_V S) (kk : z_C 213 [.inr (.inr 131), .inl s] (z_st m g) (fun v S' => z_T 256 45 [.inr (.inr 131), .inl s, .inl (S : Int), .inl (x_c S : Int), .inl (x_mir S : Int), .inl (x_many S : Int), q_dead, q_dead] (q_push v []) S' Q)) : z_T 256 15 [.inr (.inr 131), .inl s, q_dead, q_dead, q_dead, q_dead, q_dead, q_dead] [.inl (S : Int)] (z_st m g) Q := by
  have hS' := hS
  obtain ⟨s1, s2, s3⟩ := hS'
  have loop : ∀ (d k : Nat) (ki : Int), x_many S - k = d → ki = (k : Int) → k ≤ x_many S → z_T 256 26 [.inr (.inr 131), .inl s, .inl (S : Int), .inl (x_c S : Int), .inl (t_b S (x_c S) k : Int), .inl ki, q_dead, q_dead] [] (z_st m g) Q := by
    intro d
    induction d with
    | zero =>
      intro k ki hd hki hkn
      have hk : k = x_many S := by omega
      subst hk
      subst hki
      exact y_256_26 (n_many (by omega) (y_256_29 ⟨(by unfold z_ok2; omega), fun _ => kk, (fun h => absurd h (by omega))⟩))
    | succ d ih =>
      intro k ki hd hki hkn
      have hk : k < x_many S := by omega
      obtain ⟨r1, r2, r3⟩ := x_c_rng hk
      refine y_256_26 (n_many (by omega) (y_256_29 ⟨(by unfold z_ok2; omega), (fun h => absurd h (by omega)), fun _ => n_exponent (by omega) (by omega) (by omega) (y_256_36 ?_)⟩))
      rw [show ki.toNat = k by omega, show (x_c S : Int) - (x_at S k : Int) = ((x_c S - x_at S k : Nat) : Int) by omega, t_b_step (t_b_lt k (fun i hi => (x_c_rng (by omega)).2.1)) r2]
      exact ih (k + 1) (ki + 1) (by omega) (by omega) (by omega)
  refine y_256_15 (n_first (by omega) (by omega) (y_256_18 (n_last (by omega) (by omega) (y_256_20 ?_))))
  rw [show (x_at S 0 : Int) + (x_at S (x_many S - 1) : Int) = (x_c S : Int) by unfold x_c; omega]
  exact loop (x_many S) 0 0 (by omega) rfl (by omega)
