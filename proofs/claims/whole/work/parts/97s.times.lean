/-! PAIRS: times -/
/-- the numbers of the sum multiplied by (X less x) -/
def y_W (p x : Int) (N : Nat → Int) (e : Nat) : Int := ((if e = 0 then 0 else N (e - 1)) - x * N e) % p
def y_A (S : Nat) (N : Nat → Int) (k e : Nat) : Int := if (x_pre S e).length < k then N e else 0
def y_B (p x : Int) (N : Nat → Int) (n : Nat) : Nat := x_bits (fun e => decide (¬ y_W p x N e = 0)) n
theorem y_A_0 {S : Nat} {N : Nat → Int} {e : Nat} : y_A S N 0 e = 0 := if_neg (Nat.not_lt_zero _)
theorem y_A_s {p : Int} {S k e : Nat} {N : Nat → Int} (hN : x_N p S N) (hk : k < x_many S) : y_A S N (k + 1) e = if e = x_at S k then N e else y_A S N k e := by
  unfold y_A
  by_cases h : e = x_at S k
  · obtain ⟨-, -, h3⟩ := x_at_uniq hk h.symm
    rw [if_pos h, if_pos (by omega)]
  · rw [if_neg h]
    by_cases hb : e < 13 ∧ S.testBit e = true
    · have hne : ¬ (x_pre S e).length = k := fun hh => h (x_at_of hb.1 hb.2 hh).symm
      by_cases hl : (x_pre S e).length < k
      · rw [if_pos hl, if_pos (by omega)]
      · rw [if_neg hl, if_neg (by omega)]
    · have h0 : N e = 0 := hN.2 e (by
        by_cases h12 : 12 < e
        · exact Or.inl h12
        · exact Or.inr (fun hh => hb ⟨by omega, hh⟩))
      rw [h0]
      split <;> split <;> rfl
theorem y_A_n {p : Int} {S e : Nat} {N : Nat → Int} (hN : x_N p S N) : y_A S N (x_many S) e = N e := by
  unfold y_A
  by_cases hb : e < 13 ∧ S.testBit e = true
  · rw [if_pos (x_pre_lt hb.1 hb.2)]
  · have h0 : N e = 0 := hN.2 e (by
      by_cases h12 : 12 < e
      · exact Or.inl h12
      · exact Or.inr (fun hh => hb ⟨by omega, hh⟩))
    rw [h0]
    split <;> rfl
theorem y_A_k {S k : Nat} {N : Nat → Int} (hk : k < x_many S) : y_A S N k (x_at S k) = 0 ∧ y_A S N k (x_at S k + 1) = 0 := by
  obtain ⟨-, h2, h3⟩ := x_at_uniq hk rfl
  have h4 := x_pre_len (S := S) (a := x_at S k) (b := x_at S k + 1) (by omega)
  unfold y_A
  exact ⟨if_neg (by omega), if_neg (by omega)⟩
/-- one place more -/
theorem y_W_s {p x : Int} {S k : Nat} {N f f' : Nat → Int} (hN : x_N p S N) (hk : k < x_many S) (hf : ∀ e, e < 14 → f e = y_W p x (y_A S N k) e) (h1 : f' (x_at S k + 1) = (f (x_at S k + 1) + N (x_at S k)) % p) (h0 : f' (x_at S k) = (f (x_at S k) - x * N (x_at S k)) % p) (hr : ∀ e, ¬ e = x_at S k → ¬ e = x_at S k + 1 → f' e = f e) : ∀ e, e < 14 → f' e = y_W p x (y_A S N (k + 1)) e := by
  intro e he
  have hk2 := y_A_k (N := N) hk
  have hle := x_at_le hk
  by_cases c1 : e = x_at S k + 1
  · subst c1
    rw [h1, hf _ (by omega)]
    unfold y_W
    rw [if_neg (by omega), if_neg (by omega), Nat.add_sub_cancel, hk2.1, hk2.2, y_A_s hN hk, if_pos rfl, y_A_s hN hk, if_neg (by omega), hk2.2]
    simp
  · by_cases c0 : e = x_at S k
    · subst c0
      rw [h0, hf _ he]
      unfold y_W
      rw [hk2.1, y_A_s (e := x_at S k) hN hk, if_pos rfl, Int.mul_zero, Int.sub_zero]
      by_cases hz : x_at S k = 0
      · rw [if_pos hz, if_pos hz]
        simp
      · rw [if_neg hz, if_neg hz, y_A_s hN hk, if_neg (by omega)]
        exact z_msub z_mm rfl
    · rw [hr e c0 c1, hf e he]
      unfold y_W
      rw [y_A_s (e := e) hN hk, if_neg c0]
      by_cases hz : e = 0
      · rw [if_pos hz, if_pos hz]
      · rw [if_neg hz, if_neg hz, y_A_s hN hk, if_neg (by omega)]
theorem y_W_rng {p x : Int} {N : Nat → Int} {e : Nat} (hp : z_pr p) : 0 ≤ y_W p x N e ∧ y_W p x N e < p := z_m0 (by have := z_pr_le hp; omega)
theorem r_bc_rng {n : Nat} : 0 ≤ r_bc n ∧ r_bc n ≤ 31 := by
  have := z_sum_rng (f := fun e => if n.testBit e = true then (1 : Int) else 0) (B := 1) (n := 31) (fun k _ => by split <;> omega)
  unfold r_bc
  omega
/-- the class: the multiplied numbers into place 130 -/
theorem c_makeTimes {m : z_M} {g : z_g} {Q : q_V → q_S → Prop} {p x : Int} {S : Nat} {N : Nat → Int} (hS : x_V S) (hT : t_TT m p S N) (hN : x_N p S N) (h0 : 0 ≤ x) (h1 : x < p) (kk : ∀ m', t_sam 130 130 m m' → (∀ e, e < 14 → m' 130 e = y_W p x N e) → Q q_dead (z_st m' g)) : z_C 122 [.inr (.inr 0), .inl x] (z_st m g) Q := by
  obtain ⟨s1, s2, s3⟩ := hS
  have hp := hT.1.1
  have hp5 := z_pr_le hp
  refine y_122 (c_fillI (n := 14) (by decide) rfl (by decide) (y_122_4 ?_))
  have f2 : t_sam 130 130 m (f_fill m 130 14 0) := fun b j h => by unfold f_fill; rw [if_neg (by omega)]
  have f3 : ∀ e, e < 14 → f_fill m 130 14 0 130 e = 0 := fun e he => by unfold f_fill; rw [if_pos ⟨rfl, he⟩]
  generalize f_fill m 130 14 0 = m2 at f2 f3
  have loop : ∀ (d k : Nat) (ki : Int) (m3 : z_M) (da3 : q_V), x_many S - k = d → ki = (k : Int) → k ≤ x_many S → t_sam 130 130 m m3 → (∀ e, e < 14 → m3 130 e = y_W p x (y_A S N k) e) → z_T 122 6 [.inr (.inr 0), .inl x, .inl ki, da3] [] (z_st m3 g) Q := by
    intro d
    induction d with
    | zero =>
      intro k ki m3 da3 hd hki hkn q1 q2
      have hkk : k = x_many S := by omega
      subst hkk
      refine y_122_6 ?_
      rw [q1 66 1 (by omega), hT.2.1.1]
      refine ⟨(by unfold z_ok2; omega), fun _ => kk m3 q1 (fun e he => ?_), (fun h => absurd h (by omega))⟩
      rw [q2 e he]
      unfold y_W
      rw [y_A_n hN, y_A_n hN]
    | succ d ih =>
      intro k ki m3 da3 hd hki hkn q1 q2
      have hk : k < x_many S := by omega
      have ek : ki.toNat = k := by omega
      have hle := x_at_le hk
      have hT3 : t_TT m3 p S N := t_T_sam hT (by decide) q1
      have r1 := y_W_rng (x := x) (N := y_A S N k) (e := x_at S k + 1) hp
      have r0 := y_W_rng (x := x) (N := y_A S N k) (e := x_at S k) hp
      rw [← q2 _ (by omega)] at r1 r0
      have rn := hN.1 (x_at S k)
      have rx := x_mul_rng (a := x) (b := N (x_at S k)) (A := 31) (B := 31) (by omega) (by omega) (by omega) (by omega)
      refine y_122_6 ?_
      rw [q1 66 1 (by omega), hT.2.1.1]
      refine ⟨(by unfold z_ok2; omega), (fun h => absurd h (by omega)), fun _ => c_eat_b s3 hT3.2.1 (by omega) (by omega) (y_122_17 ?_)⟩
      rw [ek, show ((x_at S k : Int) + 1).toNat = x_at S k + 1 by omega]
      refine ⟨(by unfold z_ok2; omega), (fun h => absurd h (by omega)), fun _ => ⟨⟨by omega, by omega⟩, c_numberAt s3 hT3 (by omega) (by omega) (y_122_42 ?_)⟩⟩
      rw [ek]
      refine c_mod' hp hT3.1.2.1 (by unfold z_ok; omega) (y_122_44 ⟨⟨by omega, by omega⟩, ⟨by omega, by omega⟩, ?_⟩)
      rw [show ((x_at S k : Int) + 1).toNat = x_at S k + 1 by omega, show ((x_at S k : Int)).toNat = x_at S k by omega, z_un (i := x_at S k + 1) (by omega)]
      have q3 : t_sam 130 130 m (q_upd m3 130 (x_at S k + 1) ((m3 130 (x_at S k + 1) + N (x_at S k)) % p)) := fun b j h => by rw [z_un (by omega)]; exact q1 b j h
      have hT4 := t_T_sam hT (by decide) q3
      refine c_numberAt s3 hT4 (by omega) (by omega) (y_122_59 ?_)
      rw [ek]
      refine c_mod' hp hT4.1.2.1 (by unfold z_ok; omega) (y_122_62 ⟨⟨by omega, by omega⟩, ?_⟩)
      rw [show ((x_at S k : Int)).toNat = x_at S k by omega]
      refine ih (k + 1) (ki + 1) _ _ (by omega) (by omega) (by omega) (fun b j h => by rw [z_un (by omega)]; exact q3 b j h) (y_W_s (f := fun e => m3 130 e) hN hk q2 ?_ ?_ ?_)
      · rw [z_un (by omega), z_ue rfl rfl]
      · rw [z_ue rfl rfl]
      · intro e c0 c1
        rw [z_un (by omega), z_un (by omega)]
  refine loop (x_many S) 0 0 m2 _ rfl rfl (by omega) f2 (fun e he => ?_)
  rw [f3 e he]
  unfold y_W
  rw [y_A_0, y_A_0, ite_self]
  simp
theorem y_B_s {p x : Int} {N : Nat → Int} {n : Nat} : y_B p x N (n + 1) = if y_W p x N n = 0 then y_B p x N n else y_B p x N n + 2 ^ n := by
  unfold y_B
  show (if decide (¬ y_W p x N n = 0) = true then _ else _) = _
  by_cases h : y_W p x N n = 0
  · rw [if_pos h, if_neg (by simp [h])]
  · rw [if_neg h, if_pos (by simp [h])]
theorem y_B_lt {p x : Int} {N : Nat → Int} {n : Nat} : y_B p x N n < 2 ^ n := x_bits_lt _ n
theorem c_freshBits {m : z_M} {g : z_g} {Q : q_V → q_S → Prop} {p x : Int} {N : Nat → Int} (hp : z_pr p) (hr : ∀ e, e < 14 → m 130 e = y_W p x N e) (kk : Q (.inl (y_B p x N 14 : Int)) (z_st m g)) : z_C 123 [.inr (.inr 0)] (z_st m g) Q := by
  have hp5 := z_pr_le hp
  have loop : ∀ (d k : Nat) (ki : Int), 14 - k = d → ki = (k : Int) → k ≤ 14 → z_T 123 4 [.inr (.inr 0), .inl (y_B p x N k : Int), .inl ki] [] (z_st m g) Q := by
    intro d
    induction d with
    | zero =>
      intro k ki hd hki hkn
      have hk : k = 14 := by omega
      subst hk
      exact y_123_4 ⟨(by unfold z_ok2; omega), fun _ => kk, (fun h => absurd h (by omega))⟩
    | succ d ih =>
      intro k ki hd hki hkn
      subst hki
      have r := y_W_rng (x := x) (N := N) (e := k) hp
      refine y_123_4 ⟨(by unfold z_ok2; omega), (fun h => absurd h (by omega)), fun _ => ⟨⟨by omega, by omega⟩, ?_⟩⟩
      rw [show ((k : Int)).toNat = k by omega, hr k (by omega), q_b_add y_B_lt (by omega)]
      refine ⟨(by unfold z_ok; omega), fun h => ?_, fun h => ?_⟩
      · have := ih (k + 1) ((k : Int) + 1) (by omega) (by omega) (by omega)
        rw [y_B_s, if_pos h] at this
        exact this
      · have := ih (k + 1) ((k : Int) + 1) (by omega) (by omega) (by omega)
        rw [y_B_s, if_neg h] at this
        exact this
  exact y_123 (loop 14 0 0 rfl rfl (by omega))
/-- the model: numbers and bits -/
theorem n_timesBits {m : z_M} {g : z_g} {Q : q_V → q_S → Prop} {p x s : Int} {S : Nat} {N : Nat → Int} (hP : n_P m p) (hR : t_R m 138 N) (hN : x_N p S N) (h0 : 0 ≤ x) (h1 : x < p) (kw : ¬ N 12 = 0 → ∀ m', (∀ b j, ¬ b = 139 → m' b j = m b j) → Q (.inl (-3)) (z_st m' g)) (kk : N 12 = 0 → ∀ m', (∀ b j, ¬ b = 139 → m' b j = m b j) → (∀ e, e < 13 → m' 139 e = y_W p x N e) → z_C 191 [.inl (y_B p x N 13 : Int)] (z_st m' g) (fun v S' => z_T 258 77 [.inr (.inr 131), .inl s, .inl x, .inl 0, .inl (y_B p x N 13 : Int), .inl 13, q_dead, q_dead] (q_push v []) S' Q)) : z_T 258 19 [.inr (.inr 131), .inl s, .inl x, q_dead, q_dead, q_dead, q_dead, q_dead] [] (z_st m g) Q := by
  have hp := hP.1
  have hp5 := z_pr_le hp
  have loop : ∀ (a : Int), (a = 0 ∧ N 12 = 0) ∨ (a = 1 ∧ ¬ N 12 = 0) → ∀ (d k : Nat) (ki : Int) (m3 : z_M), 13 - k = d → ki = (k : Int) → k ≤ 13 → (∀ b j, ¬ b = 139 → m3 b j = m b j) → (∀ e, e < k → m3 139 e = y_W p x N e) → z_T 258 32 [.inr (.inr 131), .inl s, .inl x, .inl a, .inl (y_B p x N k : Int), .inl ki, q_dead, q_dead] [] (z_st m3 g) Q := by
    intro a ha d
    induction d with
    | zero =>
      intro k ki m3 hd hki hkn q1 q2
      have hk : k = 13 := by omega
      subst hk
      subst hki
      refine y_258_32 ⟨(by unfold z_ok2; omega), fun _ => ⟨(by unfold z_ok; omega), fun h => kw (by omega) m3 q1, fun h => ?_⟩, (fun h => absurd h (by omega))⟩
      have h12 : N 12 = 0 := by omega
      subst h
      exact kk h12 m3 q1 q2
    | succ d ih =>
      intro k ki m3 hd hki hkn q1 q2
      subst hki
      have hk : ((k : Int)).toNat = k := by omega
      have hP3 : n_P m3 p := ⟨hP.1, by rw [q1 131 1 (by omega)]; exact hP.2.1, by rw [q1 131 1 (by omega)]; exact hP.2.2.1, by rw [q1 131 1 (by omega), q1 132 _ (by omega)]; exact hP.2.2.2⟩
      have rn := hN.1 k
      have rx := x_mul_rng (a := x) (b := N k) (A := 31) (B := 31) (by omega) (by omega) (by omega) (by omega)
      have r := y_W_rng (x := x) (N := N) (e := k) hp
      have fin : ∀ v, v = y_W p x N k → z_T 258 57 [.inr (.inr 131), .inl s, .inl x, .inl a, .inl (y_B p x N k : Int), .inl (k : Int), q_dead, q_dead] [.inl v, .inl (k : Int), .inr (.inr 139)] (z_st m3 g) Q := by
        intro v hv
        refine y_258_57 ⟨⟨by omega, by omega⟩, ⟨by omega, by omega⟩, ?_⟩
        rw [hk, z_ue rfl rfl, hv, q_b_add y_B_lt (by omega)]
        have go := ih (k + 1) ((k : Int) + 1) (q_upd m3 139 k (y_W p x N k)) (by omega) (by omega) (by omega) (fun b j h => by rw [z_un (by omega)]; exact q1 b j h) (fun e he => by
          by_cases hek : e = k
          · rw [hek, z_ue rfl rfl]
          · rw [z_un (by omega)]; exact q2 e (by omega))
        have e0 : q_bin 4 (y_B p x N k : Int) 0 = (y_B p x N k : Int) := by
          have h2 := y_B_lt (p := p) (x := x) (N := N) (n := k)
          have h3 : 2 ^ k ≤ 2 ^ 12 := Nat.pow_le_pow_right (by decide) (by omega)
          have := q_b_or (a := y_B p x N k) (b := 0) (by omega) (by omega)
          rw [Nat.or_zero] at this
          exact this
        rw [e0]
        refine ⟨(by unfold z_ok; omega), fun h => ?_, fun h => ?_⟩
        · rw [y_B_s, if_pos h] at go
          exact go
        · rw [y_B_s, if_neg h] at go
          exact go
      refine y_258_32 ⟨(by unfold z_ok2; omega), (fun h => absurd h (by omega)), fun _ => ⟨(by unfold z_ok; omega), fun hz => ⟨⟨by omega, by omega⟩, ?_⟩, fun hz => ⟨⟨by omega, by omega⟩, ⟨by omega, by omega⟩, ?_⟩⟩⟩
      · rw [hk, q1 138 k (by omega), hR k (by omega)]
        refine n_rest hP3 (by unfold z_ok; omega) (fin _ ?_)
        unfold y_W
        rw [if_pos (by omega)]
      · rw [hk, q1 138 k (by omega), hR k (by omega), show ((k : Int) - 1).toNat = k - 1 by omega, q1 138 (k - 1) (by omega), hR (k - 1) (by omega)]
        have rn1 := hN.1 (k - 1)
        refine n_rest hP3 (by unfold z_ok; omega) (fin _ ?_)
        unfold y_W
        rw [if_neg (by omega)]
  have r12 := hN.1 12
  refine y_258_19 ⟨⟨by omega, by omega⟩, ?_⟩
  rw [hR 12 (by omega)]
  exact ⟨(by unfold z_ok; omega), fun h => loop 0 (Or.inl ⟨rfl, h⟩) 13 0 0 m rfl rfl (by omega) (fun _ _ _ => rfl) (fun e he => absurd he (by omega)), fun h => loop 1 (Or.inr ⟨rfl, h⟩) 13 0 0 m rfl rfl (by omega) (fun _ _ _ => rfl) (fun e he => absurd he (by omega))⟩
