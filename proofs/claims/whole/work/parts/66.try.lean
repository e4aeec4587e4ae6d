/-- a row filled up to k -/
def f_fill (m : Nat → Nat → Int) (a k : Nat) (v : Int) : Nat → Nat → Int := fun b j => if b = a ∧ j < k then v else m b j
theorem f_fill_succ {m : Nat → Nat → Int} {a k : Nat} {v : Int} : q_upd (f_fill m a k v) a k v = f_fill m a (k + 1) v := by
  funext b j
  unfold q_upd f_fill
  by_cases h1 : b = a ∧ j = k
  · rw [if_pos h1, if_pos ⟨h1.1, by omega⟩]
  · rw [if_neg h1]
    by_cases h2 : b = a ∧ j < k
    · rw [if_pos h2, if_pos ⟨h2.1, by omega⟩]
    · rw [if_neg h2, if_neg (fun h => by
        by_cases h3 : j = k
        · exact h1 ⟨h.1, h3⟩
        · exact h2 ⟨h.1, by omega⟩)]
theorem f_fill_0 {m : Nat → Nat → Int} {a : Nat} {v : Int} : f_fill m a 0 v = m := by
  funext b j
  unfold f_fill
  rw [if_neg (fun h => by omega)]
theorem c_P10 : q_P 10 = (q_c10, 4) := rfl
theorem c_fillI_loop {m : Nat → Nat → Int} {g : Nat × Nat × List (Nat × Nat) × Nat} {Q : q_V → q_S → Prop} {a n : Nat} {v : Int} (ha : a < 1000) (hsh : (q_sh0 ++ g.2.2.1)[a]? = some (0, n)) (hn : n ≤ 65536) (hQ : Q q_dead (z_st (f_fill m a n v) g)) : ∀ (d k : Nat), n - k = d → k ≤ n → z_T 10 5 [.inr (.inr a), .inl v, .inl (k : Int), .inl (n : Int)] [] (z_st (f_fill m a k v) g) Q
  | d, k, hd, hk => by
    have hok : q_ok1 a = true := by unfold q_ok1; simp [ha]
    refine z_wp_T (cd := q_c10) (cs := []) rfl 3 5 _ _ _ _ ?_
    apply And.intro
    · intro h
      have h : ¬ q_w (k : Int) < q_w (n : Int) := of_decide_eq_true h
      rw [q_w_id (by omega) (by omega), q_w_id (by omega) (by omega)] at h
      obtain rfl : k = n := by omega
      exact z_wp_T (cd := q_c10) (cs := []) rfl 1 14 _ _ _ _ hQ
    · intro h
      have h : ¬ ¬ q_w (k : Int) < q_w (n : Int) := of_decide_eq_false h
      rw [q_w_id (by omega) (by omega), q_w_id (by omega) (by omega)] at h
      match d, hd with
      | 0, hd => omega
      | d + 1, hd =>
        refine z_T_step (i := (2, 0, 0, 0, [])) rfl (by decide) (by decide) (by decide) (by simp only [q_step]; exact if_pos hok) ?_
        refine z_wp_T (cd := q_c10) (cs := []) rfl 2 9 _ _ _ _ ?_
        refine z_T_step (i := (29, 0, 0, 0, [])) rfl (by decide) (by decide) (by decide) (by
          show (match (q_sh0 ++ g.2.2.1)[a]? with
            | some (k', n') => if a < 1000 ∧ k' = 0 ∧ 0 ≤ (k : Int) ∧ (k : Int) < n' then some (11 + 1, _, _, _) else none
            | none => none) = _
          rw [hsh]
          exact if_pos ⟨ha, rfl, by omega, by omega⟩) ?_
        refine z_wp_T (cd := q_c10) (cs := [5]) rfl 3 12 _ _ _ _ ?_
        have ih := c_fillI_loop (m := m) ha hsh hn hQ d (k + 1) (by omega) (by omega)
        rw [← f_fill_succ] at ih
        exact ih
theorem c_fillI {m : Nat → Nat → Int} {g : Nat × Nat × List (Nat × Nat) × Nat} {Q : q_V → q_S → Prop} {a n : Nat} {v : Int} (ha : a < 1000) (hsh : (q_sh0 ++ g.2.2.1)[a]? = some (0, n)) (hn : n ≤ 65536) (hQ : Q q_dead (z_st (f_fill m a n v) g)) : z_C 10 [.inr (.inr a), .inl v] (z_st m g) Q := by
  have hok : q_ok1 a = true := by unfold q_ok1; simp [ha]
  refine z_C_wp [] 2 c_P10 ?_
  refine z_T_step (i := (2, 0, 0, 0, [])) rfl (by decide) (by decide) (by decide) (by simp only [q_step]; exact if_pos hok) ?_
  refine z_T_step (i := (33, 0, 0, 0, [])) rfl (by decide) (by decide) (by decide) (by
    show (match q_shp (z_st m g) a with
      | some (k', n') => if k' < 5 then some (3 + 1, _, _, _) else none
      | none => none) = _
    have : q_shp (z_st m g) a = some (0, n) := by unfold q_shp; rw [if_pos ha]; exact hsh
    rw [this]
    exact if_pos (by decide)) ?_
  refine z_wp_T (cd := q_c10) (cs := [5]) rfl 1 4 _ _ _ _ ?_
  have := c_fillI_loop (m := m) (Q := Q) ha hsh hn hQ (n - 0) 0 rfl (Nat.zero_le _)
  rw [f_fill_0] at this
  exact this
