/-! the model's notes and prime -/
def p_notes (m m' : z_M) (a b c : Int) : Prop := ∃ n s : Nat, ((m 131 41 = n ∧ n < 8 ∧ s = 0) ∨ (m 131 41 = 8 ∧ n = 7 ∧ s = 1)) ∧ m' 131 41 = n + 1 ∧ (m' 158 n = a ∧ m' 159 n = b ∧ m' 160 n = c) ∧ (∀ i : Nat, i < n → m' 158 i = m 158 (i + s) ∧ m' 159 i = m 159 (i + s) ∧ m' 160 i = m 160 (i + s)) ∧ ∀ p j : Nat, ¬ (p = 158 ∨ p = 159 ∨ p = 160 ∨ (p = 131 ∧ j = 41)) → m' p j = m p j
/-- the rows of steps, moved down as far as k -/
def f_shift (m : z_M) (k : Nat) : z_M := fun p j => if (p = 158 ∨ p = 159 ∨ p = 160) ∧ j + 1 < k then m p (j + 1) else m p j
theorem f_shift_1 {m : z_M} : f_shift m 1 = m := by
  funext p j
  unfold f_shift
  rw [if_neg (fun h => by omega)]
theorem f_shift_succ {m : z_M} {k : Nat} (hk : 1 ≤ k) : q_upd (q_upd (q_upd (f_shift m k) 158 (k - 1) (m 158 k)) 159 (k - 1) (m 159 k)) 160 (k - 1) (m 160 k) = f_shift m (k + 1) := by
  funext p j
  unfold q_upd f_shift
  by_cases h0 : j = k - 1
  · have e : j + 1 = k := by omega
    by_cases p1 : p = 158
    · subst p1; simp [h0, show k - 1 + 1 = k by omega]
    · by_cases p2 : p = 159
      · subst p2; simp [h0, show k - 1 + 1 = k by omega]
      · by_cases p3 : p = 160
        · subst p3; simp [h0, show k - 1 + 1 = k by omega]
        · simp [p1, p2, p3]
  · have e : (j + 1 < k + 1) ↔ (j + 1 < k) := by omega
    simp [h0, e]
theorem f_shift_at {m : z_M} {p k : Nat} : f_shift m k p k = m p k := by
  unfold f_shift
  rw [if_neg (fun h => by omega)]
theorem n_P189 : q_P 189 = (q_c189, 5) := rfl
theorem n_notes_loop {m : z_M} {g : Nat × Nat × List (Nat × Nat) × Nat} {Q : q_V → q_S → Prop} {a b c : Int} (hQ : z_T 189 41 [.inr (.inr 131), .inl a, .inl b, .inl c, .inl 8] [] (z_st (f_shift m 8) g) Q) : ∀ (d k : Nat), 8 - k = d → 1 ≤ k → k ≤ 8 → z_T 189 6 [.inr (.inr 131), .inl a, .inl b, .inl c, .inl (k : Int)] [] (z_st (f_shift m k) g) Q
  | d, k, hd, hk1, hk => by
    refine z_wp_T (cd := q_c189) (cs := [41, 6]) rfl 40 6 _ _ _ _ ?_
    apply And.intro
    · intro h
      have h : ¬ q_w (k : Int) < q_w 8 := of_decide_eq_true h
      rw [q_w_id (by omega) (by omega), q_w_id (by decide) (by decide)] at h
      obtain rfl : k = 8 := by omega
      exact hQ
    · intro h
      have h : ¬ ¬ q_w (k : Int) < q_w 8 := of_decide_eq_false h
      rw [q_w_id (by omega) (by omega), q_w_id (by decide) (by decide)] at h
      match d, hd with
      | 0, hd => omega
      | d + 1, hd =>
        have e1 : (((k : Int) - 1).toNat) = k - 1 := by omega
        have hi : z_in (k : Int) 8 := ⟨by omega, by omega⟩
        have hj : z_in ((k : Int) - 1) 8 := ⟨by omega, by omega⟩
        have ih := n_notes_loop (a := a) (b := b) (c := c) hQ d (k + 1) (by omega) (by omega) (by omega)
        apply And.intro
        · exact hi
        apply And.intro
        · exact hj
        apply And.intro
        · exact hi
        apply And.intro
        · exact hj
        apply And.intro
        · exact hi
        apply And.intro
        · exact hj
        rw [← f_shift_succ hk1] at ih
        have e : z_st (q_upd (q_upd (q_upd (f_shift m k) 158 ((k : Int) - 1).toNat (f_shift m k 158 k)) 159 ((k : Int) - 1).toNat (f_shift m k 159 k)) 160 ((k : Int) - 1).toNat (f_shift m k 160 k)) g = z_st (q_upd (q_upd (q_upd (f_shift m k) 158 (k - 1) (m 158 k)) 159 (k - 1) (m 159 k)) 160 (k - 1) (m 160 k)) g := by rw [e1, f_shift_at, f_shift_at, f_shift_at]
        rw [← e] at ih
        exact ih
/-- notes where there is room: from 47 on -/
theorem n_notes_tail {m : z_M} {g : Nat × Nat × List (Nat × Nat) × Nat} {Q : q_V → q_S → Prop} {a b c : Int} {v4 : q_V} (h1 : 0 ≤ m 131 41) (h2 : m 131 41 < 8) (kk : Q q_dead (z_st (q_upd (q_upd (q_upd (q_upd m 158 (m 131 41).toNat a) 159 (m 131 41).toNat b) 160 (m 131 41).toNat c) 131 41 (m 131 41 + 1)) g)) : z_T 189 47 [.inr (.inr 131), .inl a, .inl b, .inl c, v4] [] (z_st m g) Q := by
  refine z_wp_T (cd := q_c189) (cs := []) rfl 60 47 _ _ _ _ ?_
  apply And.intro
  · exact ⟨h1, h2⟩
  apply And.intro
  · exact ⟨h1, h2⟩
  apply And.intro
  · exact ⟨h1, h2⟩
  exact kk
theorem n_notes {m : z_M} {g : Nat × Nat × List (Nat × Nat) × Nat} {Q : q_V → q_S → Prop} {a b c : Int} (h1 : 0 ≤ m 131 41) (h2 : m 131 41 ≤ 8) (kk : ∀ m', p_notes m m' a b c → Q q_dead (z_st m' g)) : z_C 189 [.inr (.inr 131), .inl a, .inl b, .inl c] (z_st m g) Q := by
  refine z_C_wp [47, 6] 60 n_P189 ?_
  apply And.intro
  · intro h
    have h : ¬ q_w (m 131 41) = q_w 8 := of_decide_eq_true h
    rw [q_w_id (by omega) (by omega), q_w_id (by decide) (by decide)] at h
    refine n_notes_tail h1 (by omega) (kk _ ?_)
    obtain ⟨n, hn⟩ := Int.eq_ofNat_of_zero_le h1
    refine ⟨n, 0, Or.inl ⟨hn, by omega, rfl⟩, ?_, ?_, fun i hi => ?_, fun p j hp => ?_⟩
    · simp [q_upd, hn]
    · rw [hn]
      simp [q_upd]
    · have : i ≠ n := by omega
      rw [hn]
      simp [q_upd, this]
    · have e1 : ¬ p = 158 := fun e => hp (Or.inl e)
      have e2 : ¬ p = 159 := fun e => hp (Or.inr (Or.inl e))
      have e3 : ¬ p = 160 := fun e => hp (Or.inr (Or.inr (Or.inl e)))
      have e4 : ¬ (p = 131 ∧ j = 41) := fun e => hp (Or.inr (Or.inr (Or.inr e)))
      unfold q_upd
      rw [if_neg e4, if_neg (fun e => e3 e.1), if_neg (fun e => e2 e.1), if_neg (fun e => e1 e.1)]
  · intro h
    have h : ¬ ¬ q_w (m 131 41) = q_w 8 := of_decide_eq_false h
    rw [q_w_id (by omega) (by omega), q_w_id (by decide) (by decide)] at h
    have h8 : m 131 41 = 8 := by omega
    have hl := n_notes_loop (m := m) (g := g) (Q := Q) (a := a) (b := b) (c := c) ?_ (8 - 1) 1 rfl (by omega) (by omega)
    · rw [f_shift_1] at hl
      exact hl
    · refine z_wp_T (cd := q_c189) (cs := [47]) rfl 60 41 _ _ _ _ ?_
      have e : f_shift m 8 131 41 - 1 = 7 := by
        show m 131 41 - 1 = 7
        omega
      show z_T 189 47 _ [] (z_st (q_upd (f_shift m 8) 131 41 (f_shift m 8 131 41 - 1)) g) Q
      rw [e]
      refine n_notes_tail (by show (0 : Int) ≤ 7; decide) (by show (7 : Int) < 8; decide) (kk _ ?_)
      refine ⟨7, 1, Or.inr ⟨h8, rfl, rfl⟩, rfl, ?_, fun i hi => ?_, fun p j hp => ?_⟩
      · simp [q_upd]
      · have : i ≠ 7 := by omega
        have e2 : i + 1 < 8 := by omega
        simp [q_upd, f_shift, this, e2]
      · have e1 : ¬ p = 158 := fun e => hp (Or.inl e)
        have e2 : ¬ p = 159 := fun e => hp (Or.inr (Or.inl e))
        have e3 : ¬ p = 160 := fun e => hp (Or.inr (Or.inr (Or.inl e)))
        have e4 : ¬ (p = 131 ∧ j = 41) := fun e => hp (Or.inr (Or.inr (Or.inr e)))
        unfold q_upd f_shift
        rw [if_neg e4, if_neg (fun e => e3 e.1), if_neg (fun e => e2 e.1), if_neg (fun e => e1 e.1), if_neg e4, if_neg (fun e => by omega)]
theorem n_P187 : q_P 187 = (q_c187, 3) := rfl
/-- DoubleRootSumsModel.prime -/
theorem n_prime {m : z_M} {g : Nat × Nat × List (Nat × Nat) × Nat} {Q : q_V → q_S → Prop} {k : Int} (hk1 : -2147483648 ≤ k) (hk2 : k < 2147483648) (h1 : 0 ≤ m 131 41) (h2 : m 131 41 ≤ 8) (ko : k < 0 ∨ 9 ≤ k → Q (.inl (-1)) (z_st m g)) (kk : 0 ≤ k → k < 9 → ∀ m', p_notes m m' (-1) 0 (m 131 1) → Q (.inl (m 131 1)) (z_st (q_upd m' 131 1 k) g)) : z_C 187 [.inr (.inr 131), .inl k] (z_st m g) Q := by
  refine z_C_wp [] 60 n_P187 ?_
  refine c_isIn ?_
  rw [q_w_id (v := 0) (by decide) (by decide), q_w_id (v := 8) (by decide) (by decide), q_w_id hk1 hk2]
  by_cases hc : 0 ≤ k ∧ k ≤ 8
  · rw [if_pos hc]
    apply And.intro
    · intro h
      refine n_notes h1 h2 (fun m' hm => ?_)
      exact kk hc.1 (by omega) m' hm
    · intro h
      exact absurd h (by decide)
  · rw [if_neg hc]
    apply And.intro
    · intro h
      exact absurd h (by decide)
    · intro h
      exact ko (by omega)
