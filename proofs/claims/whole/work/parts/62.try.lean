/-! first lemmas: how wp goes -/
theorem c_P188 : q_P 188 = (q_c188, 3) := rfl
theorem c_isIn {v lo hi : Int} {S : q_S} {Q : q_V → q_S → Prop} (k : Q (.inl (if q_w lo ≤ q_w v ∧ q_w v ≤ q_w hi then 1 else 0)) S) : z_C 188 [.inl v, .inl lo, .inl hi] S Q := by
  refine z_C_wp [] 30 c_P188 ?_
  apply And.intro
  · intro h
    have h : q_w v < q_w lo := of_decide_eq_true h
    rw [if_neg (by omega)] at k
    exact k
  · intro h
    have h : ¬ q_w v < q_w lo := of_decide_eq_false h
    apply And.intro
    · intro h2
      have h2 : q_w hi < q_w v := of_decide_eq_true h2
      rw [if_neg (by omega)] at k
      exact k
    · intro h2
      have h2 : ¬ q_w hi < q_w v := of_decide_eq_false h2
      rw [if_pos (by omega)] at k
      exact k
theorem c_P53 : q_P 53 = (q_c53, 3) := rfl
theorem c_floorMod {v p : Int} {S : q_S} {Q : q_V → q_S → Prop} (h1 : -2147483648 ≤ v) (h2 : v < 2147483648) (h3 : 0 < p) (h4 : p < 2147483648) (k : Q (.inl (v % p)) S) : z_C 53 [.inl v, .inl p] S Q := by
  refine z_C_wp [] 40 c_P53 ?_
  apply And.intro
  · rw [q_w_id (by omega) h4]; omega
  · have hr : q_bin 10 v p = v.tmod p := q_b_rem h1 h2 h3 h4
    rw [hr]
    obtain ⟨f1, f2, f3⟩ := q_fm0 (v := v) h3
    have hx := q_b_xor_neg v p
    rw [q_w_id h1 h2, q_w_id (v := p) (by omega) h4] at hx
    apply And.intro
    · intro h
      have h : ¬ q_w (q_bin 5 v p) < 0 := of_decide_eq_true h
      rw [q_w_bin5, hx] at h
      have hv : 0 ≤ v := by omega
      rw [← q_fm1 hv] at k
      exact k
    · intro h
      have h : ¬ ¬ q_w (q_bin 5 v p) < 0 := of_decide_eq_false h
      rw [q_w_bin5, hx] at h
      have hv : v < 0 := by omega
      rw [q_fm2 h3 hv] at k
      apply And.intro
      · intro h5
        have h5 : q_w (v.tmod p) = 0 := of_decide_eq_true h5
        rw [q_w_id (by omega) (by omega)] at h5
        rw [if_pos h5] at k
        rw [← h5] at k
        exact k
      · intro h5
        have h5 : ¬ q_w (v.tmod p) = 0 := of_decide_eq_false h5
        rw [q_w_id (by omega) (by omega)] at h5
        rw [if_neg h5] at k
        exact k
theorem c_P52 : q_P 52 = (q_c52, 2) := rfl
