/-! STEPS: Steps.push of the class, notes of the model, pointwise -/
abbrev z_M : Type := Nat → Nat → Int
abbrev z_g : Type := Nat × Nat × List (Nat × Nat) × Nat
def p_push (m m' : z_M) (k a b c : Int) : Prop := ∃ n s : Nat, ((m 109 0 = n ∧ n < 8 ∧ s = 0) ∨ (m 109 0 = 8 ∧ n = 7 ∧ s = 1)) ∧ m' 109 0 = n + 1 ∧ (m' 110 n = k ∧ m' 111 n = a ∧ m' 112 n = b ∧ m' 113 n = c) ∧ (∀ i : Nat, i < n → m' 110 i = m 110 (i + s) ∧ m' 111 i = m 111 (i + s) ∧ m' 112 i = m 112 (i + s) ∧ m' 113 i = m 113 (i + s)) ∧ ∀ p j : Nat, (p < 109 ∨ 113 < p) → m' p j = m p j
theorem c_push' {m : z_M} {g : Nat × Nat × List (Nat × Nat) × Nat} {Q : q_V → q_S → Prop} {k a b c : Int} (h1 : 0 ≤ m 109 0) (h2 : m 109 0 ≤ 8) (kk : ∀ m', p_push m m' k a b c → Q q_dead (z_st m' g)) : z_C 16 [.inr (.inr 109), .inl k, .inl a, .inl b, .inl c] (z_st m g) Q := by
  refine c_push h1 h2 (fun h => kk _ ?_) (fun h => kk _ ?_)
  · obtain ⟨n, hn⟩ := Int.eq_ofNat_of_zero_le h1
    refine ⟨n, 0, Or.inl ⟨hn, by omega, rfl⟩, ?_, ?_, fun i hi => ?_, fun p j hp => ?_⟩
    · show m 109 0 + 1 = _
      rw [hn]
    · rw [hn]
      simp [f_push, q_upd]
    · have : i ≠ n := by omega
      rw [hn]
      simp [f_push, q_upd, this]
    · have e1 : p ≠ 109 := by omega
      have e2 : p ≠ 110 := by omega
      have e3 : p ≠ 111 := by omega
      have e4 : p ≠ 112 := by omega
      have e5 : p ≠ 113 := by omega
      simp [f_push, q_upd, e1, e2, e3, e4, e5]
  · refine ⟨7, 1, Or.inr ⟨h, rfl, rfl⟩, rfl, ?_, fun i hi => ?_, fun p j hp => ?_⟩
    · simp [f_push, q_upd]
    · have : i ≠ 7 := by omega
      have e : 1 + i = i + 1 := by omega
      simp [f_push, q_upd, q_cpy, this, hi, e]
    · have e1 : p ≠ 109 := by omega
      have e2 : p ≠ 110 := by omega
      have e3 : p ≠ 111 := by omega
      have e4 : p ≠ 112 := by omega
      have e5 : p ≠ 113 := by omega
      simp [f_push, q_upd, q_cpy, e1, e2, e3, e4, e5]
theorem c_P15 : q_P 15 = (q_c15, 3) := rfl
/-- DoubleRootSums.prime -/
theorem c_prime {m : z_M} {g : Nat × Nat × List (Nat × Nat) × Nat} {Q : q_V → q_S → Prop} {k : Int} (hk1 : -2147483648 ≤ k) (hk2 : k < 2147483648) (h1 : 0 ≤ m 109 0) (h2 : m 109 0 ≤ 8) (ko : k < 0 ∨ 9 ≤ k → Q (.inl (-1)) (z_st m g)) (kk : 0 ≤ k → k < 9 → ∀ m', p_push m m' 0 (m 1 0) 0 0 → Q (.inl (m 1 0)) (z_st (q_upd m' 1 0 k) g)) : z_C 15 [.inr (.inr 0), .inl k] (z_st m g) Q := by
  refine z_C_wp [8] 60 c_P15 ?_
  have key : 0 ≤ k → k < 9 → z_T 15 8 [.inr (.inr 0), .inl k, q_dead] [] (z_st m g) Q := by
    intro a1 a2
    refine z_wp_T (cd := q_c15) (cs := []) rfl 60 8 _ _ _ _ ?_
    refine c_push' h1 h2 (fun m' hm => ?_)
    exact kk a1 a2 m' hm
  apply And.intro
  · intro h
    have h : q_w k < 0 := of_decide_eq_true h
    rw [q_w_id hk1 hk2] at h
    exact ko (Or.inl h)
  · intro h
    have h : ¬ q_w k < 0 := of_decide_eq_false h
    rw [q_w_id hk1 hk2] at h
    apply And.intro
    · intro h3
      have h3 : q_w k < q_w 9 := of_decide_eq_true h3
      rw [q_w_id hk1 hk2, q_w_id (by decide) (by decide)] at h3
      exact key (by omega) h3
    · intro h3
      have h3 : ¬ q_w k < q_w 9 := of_decide_eq_false h3
      rw [q_w_id hk1 hk2, q_w_id (by decide) (by decide)] at h3
      exact ko (Or.inr (by omega))
