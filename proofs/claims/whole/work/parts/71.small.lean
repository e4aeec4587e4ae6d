/-! small methods of the class -/
theorem z_ok_s {x : Int} (h1 : -1000000 ≤ x) (h2 : x ≤ 1000000) : z_ok x := ⟨by omega, by omega⟩
theorem c_P24 : q_P 24 = (q_c24, 2) := rfl
theorem c_isSupport {m : z_M} {g : z_g} {Q : q_V → q_S → Prop} {k : Int} (hk : z_ok k) (hs : z_ok (m 1 1)) (kk : Q (.inl (if 0 ≤ k ∧ k < m 1 1 then 1 else 0)) (z_st m g)) : z_C 24 [.inr (.inr 0), .inl k] (z_st m g) Q := by
  refine z_C_wp [] 40 c_P24 ?_
  apply And.intro
  · intro h
    rw [z_c0 hk] at h
    have h : k < 0 := of_decide_eq_true h
    rw [if_neg (by omega)] at kk
    exact kk
  · intro h
    rw [z_c0 hk] at h
    have h : ¬ k < 0 := of_decide_eq_false h
    apply And.intro
    · intro h2
      have h2 : q_cond 3 (q_w k) (q_w (m 1 1)) = true := h2
      rw [z_c hk hs] at h2
      have h2 : ¬ k < m 1 1 := of_decide_eq_true h2
      rw [if_neg (by omega)] at kk
      exact kk
    · intro h2
      have h2 : q_cond 3 (q_w k) (q_w (m 1 1)) = false := h2
      rw [z_c hk hs] at h2
      have h2 : ¬ ¬ k < m 1 1 := of_decide_eq_false h2
      rw [if_pos (by omega)] at kk
      exact kk
theorem c_P45 : q_P 45 = (q_c45, 2) := rfl
theorem c_isSum {m : z_M} {g : z_g} {Q : q_V → q_S → Prop} {k : Int} (hk : z_ok k) (hs : z_ok (m 1 3)) (kk : Q (.inl (if 0 ≤ k ∧ k < m 1 3 then 1 else 0)) (z_st m g)) : z_C 45 [.inr (.inr 0), .inl k] (z_st m g) Q := by
  refine z_C_wp [] 40 c_P45 ?_
  apply And.intro
  · intro h
    rw [z_c0 hk] at h
    have h : k < 0 := of_decide_eq_true h
    rw [if_neg (by omega)] at kk
    exact kk
  · intro h
    rw [z_c0 hk] at h
    have h : ¬ k < 0 := of_decide_eq_false h
    apply And.intro
    · intro h2
      have h2 : q_cond 3 (q_w k) (q_w (m 1 3)) = true := h2
      rw [z_c hk hs] at h2
      have h2 : ¬ k < m 1 3 := of_decide_eq_true h2
      rw [if_neg (by omega)] at kk
      exact kk
    · intro h2
      have h2 : q_cond 3 (q_w k) (q_w (m 1 3)) = false := h2
      rw [z_c hk hs] at h2
      have h2 : ¬ ¬ k < m 1 3 := of_decide_eq_false h2
      rw [if_pos (by omega)] at kk
      exact kk
/-- a range: two compares against constants -/
theorem c_P40 : q_P 40 = (q_c40, 1) := rfl
theorem c_isKind {S : q_S} {Q : q_V → q_S → Prop} {k : Int} (hk : z_ok k) (kk : Q (.inl (if 0 ≤ k ∧ k < 6 then 1 else 0)) S) : z_C 40 [.inl k] S Q := by
  refine z_C_wp [] 40 c_P40 ?_
  apply And.intro
  · intro h
    rw [z_c0 hk] at h
    have h : k < 0 := of_decide_eq_true h
    rw [if_neg (by omega)] at kk
    exact kk
  · intro h
    rw [z_c0 hk] at h
    have h : ¬ k < 0 := of_decide_eq_false h
    apply And.intro
    · intro h2
      have h2 : q_cond 3 (q_w k) (q_w 6) = true := h2
      rw [z_c hk (z_ok_s (by decide) (by decide))] at h2
      have h2 : ¬ k < 6 := of_decide_eq_true h2
      rw [if_neg (by omega)] at kk
      exact kk
    · intro h2
      have h2 : q_cond 3 (q_w k) (q_w 6) = false := h2
      rw [z_c hk (z_ok_s (by decide) (by decide))] at h2
      have h2 : ¬ ¬ k < 6 := of_decide_eq_false h2
      rw [if_pos (by omega)] at kk
      exact kk
theorem c_P41 : q_P 41 = (q_c41, 1) := rfl
theorem c_isFigure {S : q_S} {Q : q_V → q_S → Prop} {k : Int} (hk : z_ok k) (kk : Q (.inl (if 0 ≤ k ∧ k ≤ 9 then 1 else 0)) S) : z_C 41 [.inl k] S Q := by
  refine z_C_wp [] 40 c_P41 ?_
  apply And.intro
  · intro h
    rw [z_c0 hk] at h
    have h : k < 0 := of_decide_eq_true h
    rw [if_neg (by omega)] at kk
    exact kk
  · intro h
    rw [z_c0 hk] at h
    have h : ¬ k < 0 := of_decide_eq_false h
    apply And.intro
    · intro h2
      have h2 : q_cond 4 (q_w k) (q_w 9) = true := h2
      rw [z_c hk (z_ok_s (by decide) (by decide))] at h2
      have h2 : 9 < k := of_decide_eq_true h2
      rw [if_neg (by omega)] at kk
      exact kk
    · intro h2
      have h2 : q_cond 4 (q_w k) (q_w 9) = false := h2
      rw [z_c hk (z_ok_s (by decide) (by decide))] at h2
      have h2 : ¬ 9 < k := of_decide_eq_false h2
      rw [if_pos (by omega)] at kk
      exact kk
theorem c_P20 : q_P 20 = (q_c20, 1) := rfl
theorem c_isMany {S : q_S} {Q : q_V → q_S → Prop} {k : Int} (hk : z_ok k) (kk : Q (.inl (if 2 ≤ k ∧ k ≤ 6 then 1 else 0)) S) : z_C 20 [.inl k] S Q := by
  refine z_C_wp [] 40 c_P20 ?_
  apply And.intro
  · intro h
    have h : q_cond 2 (q_w k) (q_w 2) = true := h
    rw [z_c hk (z_ok_s (by decide) (by decide))] at h
    have h : k < 2 := of_decide_eq_true h
    rw [if_neg (by omega)] at kk
    exact kk
  · intro h
    have h : q_cond 2 (q_w k) (q_w 2) = false := h
    rw [z_c hk (z_ok_s (by decide) (by decide))] at h
    have h : ¬ k < 2 := of_decide_eq_false h
    apply And.intro
    · intro h2
      have h2 : q_cond 4 (q_w k) (q_w 6) = true := h2
      rw [z_c hk (z_ok_s (by decide) (by decide))] at h2
      have h2 : 6 < k := of_decide_eq_true h2
      rw [if_neg (by omega)] at kk
      exact kk
    · intro h2
      have h2 : q_cond 4 (q_w k) (q_w 6) = false := h2
      rw [z_c hk (z_ok_s (by decide) (by decide))] at h2
      have h2 : ¬ 6 < k := of_decide_eq_false h2
      rw [if_pos (by omega)] at kk
      exact kk
theorem c_P21 : q_P 21 = (q_c21, 1) := rfl
theorem c_clear {m : z_M} {g : z_g} {Q : q_V → q_S → Prop} (kk : Q q_dead (z_st (q_upd m 109 0 0) g)) : z_C 21 [.inr (.inr 109)] (z_st m g) Q := by
  refine z_C_wp [] 40 c_P21 ?_
  exact kk
/-- Stock.modulus of now: a read of PRIMES -/
theorem c_P50 : q_P 50 = (q_c50, 1) := rfl
theorem c_modulus {m : z_M} {g : z_g} {Q : q_V → q_S → Prop} (h1 : 0 ≤ m 1 0) (h2 : m 1 0 < 9) (kk : Q (.inl (m 1002 (m 1 0).toNat)) (z_st m g)) : z_C 50 [.inr (.inr 1)] (z_st m g) Q := by
  refine z_C_wp [10] 40 c_P50 ?_
  have hk : z_ok (m 1 0) := z_ok_s (by omega) (by omega)
  have key : z_T 50 10 [.inr (.inr 1)] [] (z_st m g) Q := by
    refine z_wp_T (cd := q_c50) (cs := []) rfl 60 10 _ _ _ _ ?_
    apply And.intro
    · exact ⟨h1, h2⟩
    · exact kk
  apply And.intro
  · intro h
    have h : q_cond 2 (q_w (m 1 0)) 0 = true := h
    rw [z_c0 hk] at h
    have h : m 1 0 < 0 := of_decide_eq_true h
    omega
  · intro h
    apply And.intro
    · intro h3
      exact key
    · intro h3
      have h3 : q_cond 2 (q_w (m 1 0)) (q_w 9) = false := h3
      rw [z_c hk (z_ok_s (by decide) (by decide))] at h3
      have h3 : ¬ m 1 0 < 9 := of_decide_eq_false h3
      omega
