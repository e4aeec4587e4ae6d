/-! THE PAPER: the class's StringBuilder, in its three rooms -/
theorem s_P157 : q_P 157 = (q_c157, 3) := rfl
theorem s_P158 : q_P 158 = (q_c158, 6) := rfl
theorem s_P159 : q_P 159 = (q_c159, 4) := rfl
theorem s_P160 : q_P 160 = (q_c160, 3) := rfl
theorem s_rt : q_rt.length = 165 := by decide +kernel
theorem s_P86 : q_P 86 = (q_c86, 2) := rfl
theorem s_P161 : q_P 161 = (q_c161, 1) := rfl
theorem s_P166 : q_P 166 = (q_c166, 1) := rfl
theorem s_shr0 (k : Nat) (hk : k < 2147483648) : q_bin 7 (k : Int) 0 = (k : Int) := by
  have := q_b_shr (a := k) (e := 0) hk (by decide)
  rw [Nat.shiftRight_zero] at this
  exact this
theorem s_shl0 (k : Nat) (hk : k < 2147483648) : q_bin 6 (k : Int) 0 = (k : Int) := by
  have := q_b_shl (a := k) (e := 0) (by decide) (by omega)
  rw [Nat.pow_zero, Nat.mul_one] at this
  exact this
theorem s_ok {x : Int} (h1 : -1000000 ≤ x) (h2 : x ≤ 1000000) : z_ok x := ⟨by omega, by omega⟩
theorem s_newLength {m : z_M} {g : z_g} {Q : q_V → q_S → Prop} {a b c w : Int} (ha : 0 ≤ a ∧ a ≤ 1000) (hb : 0 ≤ b ∧ b ≤ 1000) (hc : 0 ≤ c ∧ c ≤ 1000) (hw : (if b < c then c else b) = w) (h1 : 0 < a + w) (kk : Q (.inl (a + w)) (z_st m g)) : z_C 159 [.inl a, .inl b, .inl c] (z_st m g) Q := by
  have hr : 0 ≤ (if b < c then c else b) ∧ (if b < c then c else b) ≤ 1000 := by split <;> omega
  refine z_C_wp [] 60 s_P159 (c_max (by unfold z_ok2; omega) ?_)
  rw [hw] at hr ⊢
  apply And.intro
  · intro h
    have h : q_cond 3 (q_w 0) (q_w (a + w)) = true := h
    rw [z_c (s_ok (by decide) (by decide)) (s_ok (by omega) (by omega))] at h
    have h : ¬ 0 < a + w := of_decide_eq_true h
    omega
  · intro _
    apply And.intro
    · intro h
      have h : q_cond 4 (q_w (a + w)) (q_w 2147483639) = true := h
      rw [z_c (s_ok (by omega) (by omega)) ⟨by decide, by decide⟩] at h
      have h : 2147483639 < a + w := of_decide_eq_true h
      omega
    · intro _
      exact kk
/-- Math.min over any state -/
theorem s_min {S : q_S} {Q : q_V → q_S → Prop} {a b : Int} (ha : z_ok a) (hb : z_ok b) (h : a < b) (kk : Q (.inl a) S) : z_C 86 [.inl a, .inl b] S Q := by
  refine z_C_wp [] 20 s_P86 ?_
  apply And.intro
  · intro h1
    rw [z_c ha hb] at h1
    have h1 : b < a := of_decide_eq_true h1
    omega
  · intro _
    exact kk
set_option maxRecDepth 10000 in
theorem s_newCapacity_a {L sl : Nat} {m : z_M} {Q : q_V → q_S → Prop} {n : Int} (h1 : m 125 1 = 0) (hn : 16 < n) (hn2 : n ≤ 34) (kk : Q (.inl 34) (z_st m (L, 126, [], sl))) : z_C 158 [.inr (.inr 125), .inl n] (z_st m (L, 126, [], sl)) Q := by
  refine z_C_wp [] 80 s_P158 ?_
  have e1 : q_bin 6 n (m 125 1) = n := by
    rw [h1]
    obtain ⟨k, rfl⟩ := Int.eq_ofNat_of_zero_le (show 0 ≤ n by omega)
    exact s_shl0 k (by omega)
  have e2 : q_bin 6 2 (m 125 1) = 2 := by rw [h1]; exact s_shl0 2 (by decide)
  have e3 : q_bin 7 34 (m 125 1) = 34 := by rw [h1]; exact s_shr0 34 (by decide)
  show z_C 159 [.inl 16, .inl (q_bin 6 n (m 125 1) - 16), .inl (16 + q_bin 6 2 (m 125 1))] (z_st m (L, 126, [], sl)) _
  rw [e1, e2]
  refine s_newLength (w := 16 + 2) ⟨by decide, by decide⟩ ⟨by omega, by omega⟩ ⟨by decide, by decide⟩ (by split <;> omega) (by decide) ?_
  apply And.intro
  · intro _
    show Q (.inl (q_bin 7 34 (m 125 1))) (z_st m (L, 126, [], sl))
    rw [e3]
    exact kk
  · intro h
    exact absurd h (by decide)
set_option maxRecDepth 10000 in
theorem s_newCapacity_b {L sl : Nat} {m : z_M} {Q : q_V → q_S → Prop} {n : Int} (h1 : m 125 1 = 0) (hn : 34 < n) (hn2 : n ≤ 70) (kk : Q (.inl 70) (z_st m (L, 165, [(2,34)], sl))) : z_C 158 [.inr (.inr 125), .inl n] (z_st m (L, 165, [(2,34)], sl)) Q := by
  refine z_C_wp [] 80 s_P158 ?_
  have e1 : q_bin 6 n (m 125 1) = n := by
    rw [h1]
    obtain ⟨k, rfl⟩ := Int.eq_ofNat_of_zero_le (show 0 ≤ n by omega)
    exact s_shl0 k (by omega)
  have e2 : q_bin 6 2 (m 125 1) = 2 := by rw [h1]; exact s_shl0 2 (by decide)
  have e3 : q_bin 7 70 (m 125 1) = 70 := by rw [h1]; exact s_shr0 70 (by decide)
  show z_C 159 [.inl 34, .inl (q_bin 6 n (m 125 1) - 34), .inl (34 + q_bin 6 2 (m 125 1))] (z_st m (L, 165, [(2,34)], sl)) _
  rw [e1, e2]
  refine s_newLength (w := 34 + 2) ⟨by decide, by decide⟩ ⟨by omega, by omega⟩ ⟨by decide, by decide⟩ (by split <;> omega) (by decide) ?_
  apply And.intro
  · intro _
    show Q (.inl (q_bin 7 70 (m 125 1))) (z_st m (L, 165, [(2,34)], sl))
    rw [e3]
    exact kk
  · intro h
    exact absurd h (by decide)
theorem s_rf_a {L : Nat} : q_upd (q_zero (q_rfz L 126) 165 1000) 125 0 165 = q_rfz L 165 := by
  funext b j
  by_cases h : b = 125 ∧ j = 0
  · rw [z_ue h.1 h.2]
    unfold q_rfz
    rw [if_pos h]
  · rw [z_un h]
    unfold q_zero
    by_cases h2 : 165 ≤ b ∧ b < 1000
    · rw [if_pos h2]
      unfold q_rfz
      rw [if_neg h, if_neg (by omega), List.getD_eq_getElem?_getD (l := q_rt), List.getElem?_eq_none (by rw [s_rt]; omega)]
      rfl
    · rw [if_neg h2]
      unfold q_rfz
      rw [if_neg h, if_neg h]
set_option maxRecDepth 10000 in
theorem s_copyOf_a {L sl : Nat} {m : z_M} {Q : q_V → q_S → Prop} (hb : ∀ j : Nat, -128 ≤ m 126 j ∧ m 126 j < 128) (kk : Q (.inr (.inr 165)) (q_cpy (q_zero m 165 0) 126 0 165 0 16, q_zero (q_rfz L 126) 165 1000, q_sh0 ++ [(2,34)], sl + 34)) : z_C 160 [.inr (.inr 126), .inl 34] (z_st m (L, 126, [], sl)) Q := by
  refine z_C_wp [] 80 s_P160 ?_
  apply And.intro
  · intro _
    refine s_min (s_ok (by decide) (by decide)) (s_ok (by decide) (by decide)) (by decide) ?_
    apply And.intro
    · exact ⟨by decide, by decide, by decide, by decide, by decide, fun _ x hx => by
        show -128 ≤ q_zero m 165 0 126 _ ∧ q_zero m 165 0 126 _ < 128
        unfold q_zero
        rw [if_neg (by omega)]
        exact hb _⟩
    · exact kk
  · intro h
    exact absurd h (by decide)
theorem s_rf_b {L : Nat} : q_upd (q_zero (q_rfz L 165) 166 1000) 125 0 166 = q_rfz L 166 := by
  funext b j
  by_cases h : b = 125 ∧ j = 0
  · rw [z_ue h.1 h.2]
    unfold q_rfz
    rw [if_pos h]
  · rw [z_un h]
    unfold q_zero
    by_cases h2 : 166 ≤ b ∧ b < 1000
    · rw [if_pos h2]
      unfold q_rfz
      rw [if_neg h, if_neg (by omega), List.getD_eq_getElem?_getD (l := q_rt), List.getElem?_eq_none (by rw [s_rt]; omega)]
      rfl
    · rw [if_neg h2]
      unfold q_rfz
      rw [if_neg h, if_neg h]
set_option maxRecDepth 10000 in
theorem s_copyOf_b {L sl : Nat} {m : z_M} {Q : q_V → q_S → Prop} (hb : ∀ j : Nat, -128 ≤ m 165 j ∧ m 165 j < 128) (kk : Q (.inr (.inr 166)) (q_cpy (q_zero m 166 0) 165 0 166 0 34, q_zero (q_rfz L 165) 166 1000, q_sh0 ++ [(2,34),(2,70)], sl + 70)) : z_C 160 [.inr (.inr 165), .inl 70] (z_st m (L, 165, [(2,34)], sl)) Q := by
  refine z_C_wp [] 80 s_P160 ?_
  apply And.intro
  · intro _
    refine s_min (s_ok (by decide) (by decide)) (s_ok (by decide) (by decide)) (by decide) ?_
    apply And.intro
    · exact ⟨by decide, by decide, by decide, by decide, by decide, fun _ x hx => by
        show -128 ≤ q_zero m 166 0 165 _ ∧ q_zero m 166 0 165 _ < 128
        unfold q_zero
        rw [if_neg (by omega)]
        exact hb _⟩
    · exact kk
  · intro h
    exact absurd h (by decide)
set_option maxRecDepth 10000 in
theorem s_ens_a {L sl : Nat} {m : z_M} {Q : q_V → q_S → Prop} {n : Int} (h1 : m 125 1 = 0) (h0 : 0 ≤ n) (hn : n ≤ 16) (kk : Q q_dead (z_st m (L, 126, [], sl))) : z_C 157 [.inr (.inr 125), .inl n] (z_st m (L, 126, [], sl)) Q := by
  have e3 : q_bin 7 16 (m 125 1) = 16 := by rw [h1]; exact s_shr0 16 (by decide)
  refine z_C_wp [22] 60 s_P157 ?_
  have fin : z_T 157 22 [.inr (.inr 125), .inl n, .inl (q_bin 7 16 (m 125 1))] [] (z_st m (L, 126, [], sl)) Q := by
    refine z_wp_T (cd := q_c157) (cs := []) rfl 10 22 _ _ _ _ ?_
    exact kk
  apply And.intro
  · intro _
    exact fin
  · intro h
    have h : q_cond 5 (q_w (n - q_bin 7 16 (m 125 1))) 0 = false := h
    rw [e3, z_c0 (s_ok (by omega) (by omega))] at h
    have h : ¬ ¬ 0 < n - 16 := of_decide_eq_false h
    omega
set_option maxRecDepth 10000 in
theorem s_ens_b {L sl : Nat} {m : z_M} {Q : q_V → q_S → Prop} {n : Int} (h1 : m 125 1 = 0) (h0 : 0 ≤ n) (hn : n ≤ 34) (kk : Q q_dead (z_st m (L, 165, [(2,34)], sl))) : z_C 157 [.inr (.inr 125), .inl n] (z_st m (L, 165, [(2,34)], sl)) Q := by
  have e3 : q_bin 7 34 (m 125 1) = 34 := by rw [h1]; exact s_shr0 34 (by decide)
  refine z_C_wp [22] 60 s_P157 ?_
  have fin : z_T 157 22 [.inr (.inr 125), .inl n, .inl (q_bin 7 34 (m 125 1))] [] (z_st m (L, 165, [(2,34)], sl)) Q := by
    refine z_wp_T (cd := q_c157) (cs := []) rfl 10 22 _ _ _ _ ?_
    exact kk
  apply And.intro
  · intro _
    exact fin
  · intro h
    have h : q_cond 5 (q_w (n - q_bin 7 34 (m 125 1))) 0 = false := h
    rw [e3, z_c0 (s_ok (by omega) (by omega))] at h
    have h : ¬ ¬ 0 < n - 34 := of_decide_eq_false h
    omega
set_option maxRecDepth 10000 in
theorem s_ens_c {L sl : Nat} {m : z_M} {Q : q_V → q_S → Prop} {n : Int} (h1 : m 125 1 = 0) (h0 : 0 ≤ n) (hn : n ≤ 70) (kk : Q q_dead (z_st m (L, 166, [(2,34),(2,70)], sl))) : z_C 157 [.inr (.inr 125), .inl n] (z_st m (L, 166, [(2,34),(2,70)], sl)) Q := by
  have e3 : q_bin 7 70 (m 125 1) = 70 := by rw [h1]; exact s_shr0 70 (by decide)
  refine z_C_wp [22] 60 s_P157 ?_
  have fin : z_T 157 22 [.inr (.inr 125), .inl n, .inl (q_bin 7 70 (m 125 1))] [] (z_st m (L, 166, [(2,34),(2,70)], sl)) Q := by
    refine z_wp_T (cd := q_c157) (cs := []) rfl 10 22 _ _ _ _ ?_
    exact kk
  apply And.intro
  · intro _
    exact fin
  · intro h
    have h : q_cond 5 (q_w (n - q_bin 7 70 (m 125 1))) 0 = false := h
    rw [e3, z_c0 (s_ok (by omega) (by omega))] at h
    have h : ¬ ¬ 0 < n - 70 := of_decide_eq_false h
    omega
set_option maxRecDepth 10000 in
theorem s_grow_a {L sl : Nat} {m : z_M} {Q : q_V → q_S → Prop} {n : Int} (h1 : m 125 1 = 0) (hn : 16 < n) (hn2 : n ≤ 34) (hb : ∀ j : Nat, -128 ≤ m 126 j ∧ m 126 j < 128) (kk : Q q_dead (z_st (q_cpy (q_zero m 165 0) 126 0 165 0 16) (L, 165, [(2,34)], sl + 34))) : z_C 157 [.inr (.inr 125), .inl n] (z_st m (L, 126, [], sl)) Q := by
  have e3 : q_bin 7 16 (m 125 1) = 16 := by rw [h1]; exact s_shr0 16 (by decide)
  have e4 : q_bin 6 34 (m 125 1) = 34 := by rw [h1]; exact s_shl0 34 (by decide)
  refine z_C_wp [17, 21] 60 s_P157 ?_
  apply And.intro
  · intro h
    have h : q_cond 5 (q_w (n - q_bin 7 16 (m 125 1))) 0 = true := h
    rw [e3, z_c0 (s_ok (by omega) (by omega))] at h
    have h : ¬ 0 < n - 16 := of_decide_eq_true h
    omega
  · intro _
    refine s_newCapacity_a h1 hn hn2 ?_
    refine z_wp_T (cd := q_c157) (cs := [21]) rfl 30 17 _ _ _ _ ?_
    show z_C 160 [.inr (.inr 126), .inl (q_bin 6 34 (m 125 1))] (z_st m (L, 126, [], sl)) _
    rw [e4]
    refine s_copyOf_a hb ?_
    refine z_wp_T (cd := q_c157) (cs := []) rfl 10 21 _ _ _ _ ?_
    show Q q_dead (q_cpy (q_zero m 165 0) 126 0 165 0 16, q_upd (q_zero (q_rfz L 126) 165 1000) 125 0 165, q_sh0 ++ [(2,34)], sl + 34)
    rw [s_rf_a]
    exact kk
set_option maxRecDepth 10000 in
theorem s_grow_b {L sl : Nat} {m : z_M} {Q : q_V → q_S → Prop} {n : Int} (h1 : m 125 1 = 0) (hn : 34 < n) (hn2 : n ≤ 70) (hb : ∀ j : Nat, -128 ≤ m 165 j ∧ m 165 j < 128) (kk : Q q_dead (z_st (q_cpy (q_zero m 166 0) 165 0 166 0 34) (L, 166, [(2,34),(2,70)], sl + 70))) : z_C 157 [.inr (.inr 125), .inl n] (z_st m (L, 165, [(2,34)], sl)) Q := by
  have e3 : q_bin 7 34 (m 125 1) = 34 := by rw [h1]; exact s_shr0 34 (by decide)
  have e4 : q_bin 6 70 (m 125 1) = 70 := by rw [h1]; exact s_shl0 70 (by decide)
  refine z_C_wp [17, 21] 60 s_P157 ?_
  apply And.intro
  · intro h
    have h : q_cond 5 (q_w (n - q_bin 7 34 (m 125 1))) 0 = true := h
    rw [e3, z_c0 (s_ok (by omega) (by omega))] at h
    have h : ¬ 0 < n - 34 := of_decide_eq_true h
    omega
  · intro _
    refine s_newCapacity_b h1 hn hn2 ?_
    refine z_wp_T (cd := q_c157) (cs := [21]) rfl 30 17 _ _ _ _ ?_
    show z_C 160 [.inr (.inr 165), .inl (q_bin 6 70 (m 125 1))] (z_st m (L, 165, [(2,34)], sl)) _
    rw [e4]
    refine s_copyOf_b hb ?_
    refine z_wp_T (cd := q_c157) (cs := []) rfl 10 21 _ _ _ _ ?_
    show Q q_dead (q_cpy (q_zero m 166 0) 165 0 166 0 34, q_upd (q_zero (q_rfz L 165) 166 1000) 125 0 166, q_sh0 ++ [(2,34),(2,70)], sl + 70)
    rw [s_rf_b]
    exact kk
theorem s_isLatin1 {m : z_M} {g : z_g} {Q : q_V → q_S → Prop} (h1 : m 125 1 = 0) (kk : Q (.inl 1) (z_st m g)) : z_C 161 [.inr (.inr 125)] (z_st m g) Q := by
  refine z_C_wp [] 20 s_P161 ?_
  apply And.intro
  · intro h
    exact absurd h (by decide)
  · intro _
    apply And.intro
    · intro h
      have h : q_cond 1 (q_w (m 125 1)) 0 = true := h
      rw [h1] at h
      exact absurd h (by decide)
    · intro _
      exact kk
