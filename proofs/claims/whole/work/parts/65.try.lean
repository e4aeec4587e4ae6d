theorem c_P17 : q_P 17 = (q_c17, 1) := rfl
theorem c_dropOldest {m : Nat → Nat → Int} {g : Nat × Nat × List (Nat × Nat) × Nat} {Q : q_V → q_S → Prop} (k : Q q_dead (z_st (q_upd (q_cpy (q_cpy (q_cpy (q_cpy m 110 1 110 0 7) 111 1 111 0 7) 112 1 112 0 7) 113 1 113 0 7) 109 0 7) g)) : z_C 17 [.inr (.inr 109)] (z_st m g) Q := by
  refine z_C_wp [] 60 c_P17 ?_
  apply And.intro
  · exact ⟨by decide, by decide, by decide, by decide, by decide, fun h => absurd h (by decide)⟩
  apply And.intro
  · exact ⟨by decide, by decide, by decide, by decide, by decide, fun h => absurd h (by decide)⟩
  apply And.intro
  · exact ⟨by decide, by decide, by decide, by decide, by decide, fun h => absurd h (by decide)⟩
  apply And.intro
  · exact ⟨by decide, by decide, by decide, by decide, by decide, fun h => absurd h (by decide)⟩
  exact k
theorem c_P16 : q_P 16 = (q_c16, 5) := rfl
/-- Steps.push when there is room; when there is none -/
def f_push (m : Nat → Nat → Int) (n : Int) (k a b c : Int) : Nat → Nat → Int := q_upd (q_upd (q_upd (q_upd (q_upd m 110 n.toNat k) 111 n.toNat a) 112 n.toNat b) 113 n.toNat c) 109 0 (n + 1)
theorem c_push_tail {m : Nat → Nat → Int} {g : Nat × Nat × List (Nat × Nat) × Nat} {Q : q_V → q_S → Prop} {k a b c : Int} (h1 : 0 ≤ m 109 0) (h2 : m 109 0 < 8) (kk : Q q_dead (z_st (f_push m (m 109 0) k a b c) g)) : z_T 16 6 [.inr (.inr 109), .inl k, .inl a, .inl b, .inl c] [] (z_st m g) Q := by
  refine z_wp_T (cd := q_c16) (cs := []) rfl 60 6 _ _ _ _ ?_
  apply And.intro
  · exact ⟨h1, h2⟩
  apply And.intro
  · exact ⟨h1, h2⟩
  apply And.intro
  · exact ⟨h1, h2⟩
  apply And.intro
  · exact ⟨h1, h2⟩
  exact kk
theorem c_push {m : Nat → Nat → Int} {g : Nat × Nat × List (Nat × Nat) × Nat} {Q : q_V → q_S → Prop} {k a b c : Int} (h1 : 0 ≤ m 109 0) (h2 : m 109 0 ≤ 8) (k1 : m 109 0 < 8 → Q q_dead (z_st (f_push m (m 109 0) k a b c) g)) (k2 : m 109 0 = 8 → Q q_dead (z_st (f_push (q_upd (q_cpy (q_cpy (q_cpy (q_cpy m 110 1 110 0 7) 111 1 111 0 7) 112 1 112 0 7) 113 1 113 0 7) 109 0 7) 7 k a b c) g)) : z_C 16 [.inr (.inr 109), .inl k, .inl a, .inl b, .inl c] (z_st m g) Q := by
  refine z_C_wp [6] 60 c_P16 ?_
  apply And.intro
  · intro h
    have h : q_w (m 109 0) < q_w 8 := of_decide_eq_true h
    rw [q_w_id (by omega) (by omega), q_w_id (by decide) (by decide)] at h
    exact c_push_tail h1 h (k1 h)
  · intro h
    have h : ¬ q_w (m 109 0) < q_w 8 := of_decide_eq_false h
    rw [q_w_id (by omega) (by omega), q_w_id (by decide) (by decide)] at h
    refine c_dropOldest ?_
    exact c_push_tail (by show (0 : Int) ≤ 7; decide) (by show (7 : Int) < 8; decide) (k2 (by omega))
