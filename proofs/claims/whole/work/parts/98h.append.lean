/-! THE PAPER: one more letter, a number -/
theorem s_P164 : q_P 164 = (q_c164, 2) := rfl
theorem s_P165 : q_P 165 = (q_c165, 2) := rfl
theorem s_P169 : q_P 169 = (q_c169, 2) := rfl
theorem s_P170 : q_P 170 = (q_c170, 4) := rfl
theorem s_P171 : q_P 171 = (q_c171, 4) := rfl
theorem s_P172 : q_P 172 = (q_c172, 7) := rfl
def s_cap (g : z_g) : Int := if g.2.1 = 126 then 16 else if g.2.1 = 165 then 34 else 70
theorem s_ensure {L : Nat} {m : z_M} {g : z_g} {Q : q_V → q_S → Prop} {n : Int} (hg : i_g L g) (h1 : m 125 1 = 0) (h0 : 0 ≤ n) (hn : n ≤ 70) (h16 : g.2.1 = 126 → n ≤ 34) (hb : ∀ j : Nat, -128 ≤ m g.2.1 j ∧ m g.2.1 j < 128) (kk : ∀ m' g', i_g L g' → n ≤ s_cap g' → s_cap g ≤ s_cap g' → (∀ a j, a < 165 ∨ 1000 ≤ a → m' a j = m a j) → (∀ j : Nat, (j : Int) < s_cap g → m' g'.2.1 j = m g.2.1 j) → (∀ j : Nat, -128 ≤ m' g'.2.1 j ∧ m' g'.2.1 j < 128) → Q q_dead (z_st m' g')) : z_C 157 [.inr (.inr 125), .inl n] (z_st m g) Q := by
  obtain ⟨g1, g2, g3, g4⟩ := g
  obtain ⟨e1, h | h | h⟩ := hg
  · obtain ⟨h2, h3, h4⟩ := h
    dsimp only at e1 h2 h3 h4 hb h16
    subst e1 h2 h3
    by_cases hc : n ≤ 16
    · exact s_ens_a h1 h0 hc (kk m _ ⟨rfl, Or.inl ⟨rfl, rfl, h4⟩⟩ hc (Int.le_refl _) (fun _ _ _ => rfl) (fun _ _ => rfl) hb)
    · refine s_grow_a h1 (by omega) (h16 rfl) hb (kk _ _ ⟨rfl, Or.inr (Or.inl ⟨rfl, rfl, by show g4 + 34 ≤ 3040; omega⟩)⟩ (h16 rfl) (by show (16 : Int) ≤ 34; decide) (fun a j ha => ?_) (fun j hj => ?_) (fun j => ?_))
      · rw [q_cp_n' (by omega)]; unfold q_zero; rw [if_neg (by omega)]
      · have hj : (j : Int) < 16 := hj
        show q_cpy (q_zero m 165 0) 126 0 165 0 16 165 j = m 126 j
        rw [q_cp_e (by omega) (by omega)]; unfold q_zero; rw [if_neg (by omega), show 0 + (j - 0) = j by omega]
      · show -128 ≤ q_cpy (q_zero m 165 0) 126 0 165 0 16 165 j ∧ q_cpy (q_zero m 165 0) 126 0 165 0 16 165 j < 128
        unfold q_cpy q_zero
        split
        · rw [if_neg (by omega)]; exact hb _
        · rw [if_pos (by omega)]; decide
  · obtain ⟨h2, h3, h4⟩ := h
    dsimp only at e1 h2 h3 h4 hb h16
    subst e1 h2 h3
    by_cases hc : n ≤ 34
    · exact s_ens_b h1 h0 hc (kk m _ ⟨rfl, Or.inr (Or.inl ⟨rfl, rfl, h4⟩)⟩ hc (Int.le_refl _) (fun _ _ _ => rfl) (fun _ _ => rfl) hb)
    · refine s_grow_b h1 (by omega) hn hb (kk _ _ ⟨rfl, Or.inr (Or.inr ⟨rfl, rfl, by show g4 + 70 ≤ 3120; omega⟩)⟩ hn (by show (34 : Int) ≤ 70; decide) (fun a j ha => ?_) (fun j hj => ?_) (fun j => ?_))
      · rw [q_cp_n' (by omega)]; unfold q_zero; rw [if_neg (by omega)]
      · have hj : (j : Int) < 34 := hj
        show q_cpy (q_zero m 166 0) 165 0 166 0 34 166 j = m 165 j
        rw [q_cp_e (by omega) (by omega)]; unfold q_zero; rw [if_neg (by omega), show 0 + (j - 0) = j by omega]
      · show -128 ≤ q_cpy (q_zero m 166 0) 165 0 166 0 34 166 j ∧ q_cpy (q_zero m 166 0) 165 0 166 0 34 166 j < 128
        unfold q_cpy q_zero
        split
        · rw [if_neg (by omega)]; exact hb _
        · rw [if_pos (by omega)]; decide
  · obtain ⟨h2, h3, h4⟩ := h
    dsimp only at e1 h2 h3 h4 hb h16
    subst e1 h2 h3
    exact s_ens_c h1 h0 hn (kk m _ ⟨rfl, Or.inr (Or.inr ⟨rfl, rfl, h4⟩)⟩ hn (Int.le_refl _) (fun _ _ _ => rfl) (fun _ _ => rfl) hb)
theorem s_i2b_dec : ∀ k : Nat, k < 128 → q_i2b (k : Int) = (k : Int) := by decide +kernel
theorem s_i2b {c : Int} (h0 : 0 ≤ c) (h1 : c < 128) : q_i2b c = c := by
  obtain ⟨k, rfl⟩ := Int.eq_ofNat_of_zero_le h0
  exact s_i2b_dec k (by omega)
theorem s_canEncode {m : z_M} {g : z_g} {Q : q_V → q_S → Prop} {c : Int} (h0 : 0 ≤ c) (h1 : c < 128) (kk : Q (.inl 1) (z_st m g)) : z_C 166 [.inl c] (z_st m g) Q := by
  refine z_C_wp [] 20 s_P166 ?_
  apply And.intro
  · intro h
    have h : q_cond 4 (q_w c) (q_w 255) = true := h
    rw [z_c (s_ok (by omega) (by omega)) (s_ok (by decide) (by decide))] at h
    have h : 255 < c := of_decide_eq_true h
    omega
  · intro _
    exact kk
set_option maxRecDepth 10000 in
theorem s_put_a {L sl : Nat} {m : z_M} {Q : q_V → q_S → Prop} {n : Nat} {c : Int} (h1 : m 125 1 = 0) (h3 : m 125 3 = (n : Int)) (hn : (n : Int) + 1 ≤ 16) (c0 : 0 ≤ c) (c1 : c < 128) (kk : Q (.inr (.inr 125)) (z_st (q_upd (q_upd m 125 3 ((n : Int) + 1)) 126 n c) (L, 126, [], sl))) : z_T 165 6 [.inr (.inr 125), .inl c] [] (z_st m (L, 126, [], sl)) Q := by
  refine z_wp_T (cd := q_c165) (cs := [8, 11]) rfl 30 6 _ _ _ _ ?_
  refine s_isLatin1 h1 ?_
  refine z_wp_T (cd := q_c165) (cs := [11]) rfl 30 8 _ _ _ _ ?_
  apply And.intro
  · intro h
    exact absurd h (by decide)
  · intro _
    refine s_canEncode c0 c1 ?_
    refine z_wp_T (cd := q_c165) (cs := []) rfl 30 11 _ _ _ _ ?_
    apply And.intro
    · intro h
      exact absurd h (by decide)
    · intro _
      apply And.intro
      · show 0 ≤ m 125 3 ∧ m 125 3 < ((16 : Nat) : Int)
        rw [h3]
        omega
      · show Q (.inr (.inr 125)) (z_st (q_upd (q_upd m 125 3 (m 125 3 + 1)) 126 (m 125 3).toNat (q_i2b (q_i2b c))) (L, 126, [], sl))
        rw [h3, s_i2b c0 c1, s_i2b c0 c1, Int.toNat_natCast]
        exact kk
set_option maxRecDepth 10000 in
theorem s_get1_a {L sl : Nat} {m : z_M} {Q : q_V → q_S → Prop} {n : Nat} {v : Int} (hD : i_D m) (hn : (n : Int) + 1 ≤ 16) (v0 : 0 ≤ v) (v9 : v ≤ 9) (kk : ∀ w, Q (.inl w) (z_st (q_upd m 126 n (48 + v)) (L, 126, [], sl))) : z_C 172 [.inl v, .inl ((n : Int) + 1), .inr (.inr 126)] (z_st m (L, 126, [], sl)) Q := by
  have hd : m 1004 v.toNat = 48 + v := by
    rw [(hD v.toNat (by omega)).2]
    unfold q_do
    omega
  refine z_C_wp [43, 13] 100 s_P172 ?_
  have t43 : z_T 172 43 [.inl (-v), .inl ((n : Int) + 1), .inr (.inr 126), q_dead, q_dead, .inl ((n : Int) + 1), .inl 0] [] (z_st m (L, 126, [], sl)) Q := by
    refine z_wp_T (cd := q_c172) (cs := []) rfl 60 43 _ _ _ _ ?_
    apply And.intro
    · show 0 ≤ - -v ∧ - -v < ((100 : Nat) : Int)
      omega
    · apply And.intro
      · show 0 ≤ (n : Int) + 1 + -1 ∧ (n : Int) + 1 + -1 < ((16 : Nat) : Int)
        omega
      · apply And.intro
        · intro _
          apply And.intro
          · intro _
            show Q (.inl ((n : Int) + 1 + -1)) (z_st (q_upd m 126 ((n : Int) + 1 + -1).toNat (q_i2b (m 1004 (- -v).toNat))) (L, 126, [], sl))
            rw [show (n : Int) + 1 + -1 = (n : Int) by omega, show - -v = v by omega, hd, s_i2b (by omega) (by omega), Int.toNat_natCast]
            exact kk _
          · intro h
            exact absurd h (by decide)
        · intro h
          have h : q_cond 3 (q_w (-v)) (q_w (-9)) = false := h
          rw [z_c (s_ok (by omega) (by omega)) (s_ok (by decide) (by decide))] at h
          have h : ¬ ¬ -v < -9 := of_decide_eq_false h
          omega
  have t13 : z_T 172 13 [.inl (-v), .inl ((n : Int) + 1), .inr (.inr 126), q_dead, q_dead, .inl ((n : Int) + 1), .inl 0] [] (z_st m (L, 126, [], sl)) Q := by
    refine z_wp_T (cd := q_c172) (cs := [43]) rfl 60 13 _ _ _ _ ?_
    apply And.intro
    · intro _
      exact t43
    · intro h
      have h : q_cond 4 (q_w (-v)) (q_w (-100)) = false := h
      rw [z_c (s_ok (by omega) (by omega)) (s_ok (by decide) (by decide))] at h
      have h : ¬ -100 < -v := of_decide_eq_false h
      omega
  apply And.intro
  · intro _
    apply And.intro
    · intro h
      exact absurd h (by decide)
    · intro _
      exact t13
  · intro h
    have h : q_cond 3 (q_w v) 0 = false := h
    rw [z_c0 (s_ok (by omega) (by omega))] at h
    have h : ¬ ¬ v < 0 := of_decide_eq_false h
    omega
set_option maxRecDepth 10000 in
theorem s_get2_a {L sl : Nat} {m : z_M} {Q : q_V → q_S → Prop} {n : Nat} {v : Int} (hD : i_D m) (hn : (n : Int) + 2 ≤ 16) (v0 : 10 ≤ v) (v9 : v ≤ 99) (kk : ∀ w, Q (.inl w) (z_st (q_upd (q_upd m 126 (n + 1) (48 + v % 10)) 126 n (48 + v / 10)) (L, 126, [], sl))) : z_C 172 [.inl v, .inl ((n : Int) + 2), .inr (.inr 126)] (z_st m (L, 126, [], sl)) Q := by
  have hd : m 1004 v.toNat = 48 + v % 10 := by
    rw [(hD v.toNat (by omega)).2]
    unfold q_do
    omega
  have hd2 : m 1003 v.toNat = 48 + v / 10 := by
    rw [(hD v.toNat (by omega)).1]
    unfold q_dt
    omega
  refine z_C_wp [43, 13] 100 s_P172 ?_
  have t43 : z_T 172 43 [.inl (-v), .inl ((n : Int) + 2), .inr (.inr 126), q_dead, q_dead, .inl ((n : Int) + 2), .inl 0] [] (z_st m (L, 126, [], sl)) Q := by
    refine z_wp_T (cd := q_c172) (cs := []) rfl 60 43 _ _ _ _ ?_
    apply And.intro
    · show 0 ≤ - -v ∧ - -v < ((100 : Nat) : Int)
      omega
    · apply And.intro
      · show 0 ≤ (n : Int) + 2 + -1 ∧ (n : Int) + 2 + -1 < ((16 : Nat) : Int)
        omega
      · apply And.intro
        · intro h
          have h : q_cond 3 (q_w (-v)) (q_w (-9)) = true := h
          rw [z_c (s_ok (by omega) (by omega)) (s_ok (by decide) (by decide))] at h
          have h : ¬ -v < -9 := of_decide_eq_true h
          omega
        · intro _
          apply And.intro
          · show 0 ≤ - -v ∧ - -v < ((100 : Nat) : Int)
            omega
          · apply And.intro
            · show 0 ≤ (n : Int) + 2 + -1 + -1 ∧ (n : Int) + 2 + -1 + -1 < ((16 : Nat) : Int)
              omega
            · apply And.intro
              · intro _
                show Q (.inl ((n : Int) + 2 + -1 + -1)) (z_st (q_upd (q_upd m 126 ((n : Int) + 2 + -1).toNat (q_i2b (m 1004 (- -v).toNat))) 126 ((n : Int) + 2 + -1 + -1).toNat (q_i2b ((q_upd m 126 ((n : Int) + 2 + -1).toNat (q_i2b (m 1004 (- -v).toNat))) 1003 (- -v).toNat))) (L, 126, [], sl))
                rw [show - -v = v by omega, z_un (a := 126) (b := 1003) (by omega), hd, hd2, s_i2b (by omega) (by omega), s_i2b (by omega) (by omega), show ((n : Int) + 2 + -1).toNat = n + 1 by omega, show ((n : Int) + 2 + -1 + -1).toNat = n by omega]
                exact kk _
              · intro h
                exact absurd h (by decide)
  have t13 : z_T 172 13 [.inl (-v), .inl ((n : Int) + 2), .inr (.inr 126), q_dead, q_dead, .inl ((n : Int) + 2), .inl 0] [] (z_st m (L, 126, [], sl)) Q := by
    refine z_wp_T (cd := q_c172) (cs := [43]) rfl 60 13 _ _ _ _ ?_
    apply And.intro
    · intro _
      exact t43
    · intro h
      have h : q_cond 4 (q_w (-v)) (q_w (-100)) = false := h
      rw [z_c (s_ok (by omega) (by omega)) (s_ok (by decide) (by decide))] at h
      have h : ¬ -100 < -v := of_decide_eq_false h
      omega
  apply And.intro
  · intro _
    apply And.intro
    · intro h
      exact absurd h (by decide)
    · intro _
      exact t13
  · intro h
    have h : q_cond 3 (q_w v) 0 = false := h
    rw [z_c0 (s_ok (by omega) (by omega))] at h
    have h : ¬ ¬ v < 0 := of_decide_eq_false h
    omega
set_option maxRecDepth 10000 in
theorem s_put_b {L sl : Nat} {m : z_M} {Q : q_V → q_S → Prop} {n : Nat} {c : Int} (h1 : m 125 1 = 0) (h3 : m 125 3 = (n : Int)) (hn : (n : Int) + 1 ≤ 34) (c0 : 0 ≤ c) (c1 : c < 128) (kk : Q (.inr (.inr 125)) (z_st (q_upd (q_upd m 125 3 ((n : Int) + 1)) 165 n c) (L, 165, [(2,34)], sl))) : z_T 165 6 [.inr (.inr 125), .inl c] [] (z_st m (L, 165, [(2,34)], sl)) Q := by
  refine z_wp_T (cd := q_c165) (cs := [8, 11]) rfl 30 6 _ _ _ _ ?_
  refine s_isLatin1 h1 ?_
  refine z_wp_T (cd := q_c165) (cs := [11]) rfl 30 8 _ _ _ _ ?_
  apply And.intro
  · intro h
    exact absurd h (by decide)
  · intro _
    refine s_canEncode c0 c1 ?_
    refine z_wp_T (cd := q_c165) (cs := []) rfl 30 11 _ _ _ _ ?_
    apply And.intro
    · intro h
      exact absurd h (by decide)
    · intro _
      apply And.intro
      · show 0 ≤ m 125 3 ∧ m 125 3 < ((34 : Nat) : Int)
        rw [h3]
        omega
      · show Q (.inr (.inr 125)) (z_st (q_upd (q_upd m 125 3 (m 125 3 + 1)) 165 (m 125 3).toNat (q_i2b (q_i2b c))) (L, 165, [(2,34)], sl))
        rw [h3, s_i2b c0 c1, s_i2b c0 c1, Int.toNat_natCast]
        exact kk
set_option maxRecDepth 10000 in
theorem s_get1_b {L sl : Nat} {m : z_M} {Q : q_V → q_S → Prop} {n : Nat} {v : Int} (hD : i_D m) (hn : (n : Int) + 1 ≤ 34) (v0 : 0 ≤ v) (v9 : v ≤ 9) (kk : ∀ w, Q (.inl w) (z_st (q_upd m 165 n (48 + v)) (L, 165, [(2,34)], sl))) : z_C 172 [.inl v, .inl ((n : Int) + 1), .inr (.inr 165)] (z_st m (L, 165, [(2,34)], sl)) Q := by
  have hd : m 1004 v.toNat = 48 + v := by
    rw [(hD v.toNat (by omega)).2]
    unfold q_do
    omega
  refine z_C_wp [43, 13] 100 s_P172 ?_
  have t43 : z_T 172 43 [.inl (-v), .inl ((n : Int) + 1), .inr (.inr 165), q_dead, q_dead, .inl ((n : Int) + 1), .inl 0] [] (z_st m (L, 165, [(2,34)], sl)) Q := by
    refine z_wp_T (cd := q_c172) (cs := []) rfl 60 43 _ _ _ _ ?_
    apply And.intro
    · show 0 ≤ - -v ∧ - -v < ((100 : Nat) : Int)
      omega
    · apply And.intro
      · show 0 ≤ (n : Int) + 1 + -1 ∧ (n : Int) + 1 + -1 < ((34 : Nat) : Int)
        omega
      · apply And.intro
        · intro _
          apply And.intro
          · intro _
            show Q (.inl ((n : Int) + 1 + -1)) (z_st (q_upd m 165 ((n : Int) + 1 + -1).toNat (q_i2b (m 1004 (- -v).toNat))) (L, 165, [(2,34)], sl))
            rw [show (n : Int) + 1 + -1 = (n : Int) by omega, show - -v = v by omega, hd, s_i2b (by omega) (by omega), Int.toNat_natCast]
            exact kk _
          · intro h
            exact absurd h (by decide)
        · intro h
          have h : q_cond 3 (q_w (-v)) (q_w (-9)) = false := h
          rw [z_c (s_ok (by omega) (by omega)) (s_ok (by decide) (by decide))] at h
          have h : ¬ ¬ -v < -9 := of_decide_eq_false h
          omega
  have t13 : z_T 172 13 [.inl (-v), .inl ((n : Int) + 1), .inr (.inr 165), q_dead, q_dead, .inl ((n : Int) + 1), .inl 0] [] (z_st m (L, 165, [(2,34)], sl)) Q := by
    refine z_wp_T (cd := q_c172) (cs := [43]) rfl 60 13 _ _ _ _ ?_
    apply And.intro
    · intro _
      exact t43
    · intro h
      have h : q_cond 4 (q_w (-v)) (q_w (-100)) = false := h
      rw [z_c (s_ok (by omega) (by omega)) (s_ok (by decide) (by decide))] at h
      have h : ¬ -100 < -v := of_decide_eq_false h
      omega
  apply And.intro
  · intro _
    apply And.intro
    · intro h
      exact absurd h (by decide)
    · intro _
      exact t13
  · intro h
    have h : q_cond 3 (q_w v) 0 = false := h
    rw [z_c0 (s_ok (by omega) (by omega))] at h
    have h : ¬ ¬ v < 0 := of_decide_eq_false h
    omega
set_option maxRecDepth 10000 in
theorem s_get2_b {L sl : Nat} {m : z_M} {Q : q_V → q_S → Prop} {n : Nat} {v : Int} (hD : i_D m) (hn : (n : Int) + 2 ≤ 34) (v0 : 10 ≤ v) (v9 : v ≤ 99) (kk : ∀ w, Q (.inl w) (z_st (q_upd (q_upd m 165 (n + 1) (48 + v % 10)) 165 n (48 + v / 10)) (L, 165, [(2,34)], sl))) : z_C 172 [.inl v, .inl ((n : Int) + 2), .inr (.inr 165)] (z_st m (L, 165, [(2,34)], sl)) Q := by
  have hd : m 1004 v.toNat = 48 + v % 10 := by
    rw [(hD v.toNat (by omega)).2]
    unfold q_do
    omega
  have hd2 : m 1003 v.toNat = 48 + v / 10 := by
    rw [(hD v.toNat (by omega)).1]
    unfold q_dt
    omega
  refine z_C_wp [43, 13] 100 s_P172 ?_
  have t43 : z_T 172 43 [.inl (-v), .inl ((n : Int) + 2), .inr (.inr 165), q_dead, q_dead, .inl ((n : Int) + 2), .inl 0] [] (z_st m (L, 165, [(2,34)], sl)) Q := by
    refine z_wp_T (cd := q_c172) (cs := []) rfl 60 43 _ _ _ _ ?_
    apply And.intro
    · show 0 ≤ - -v ∧ - -v < ((100 : Nat) : Int)
      omega
    · apply And.intro
      · show 0 ≤ (n : Int) + 2 + -1 ∧ (n : Int) + 2 + -1 < ((34 : Nat) : Int)
        omega
      · apply And.intro
        · intro h
          have h : q_cond 3 (q_w (-v)) (q_w (-9)) = true := h
          rw [z_c (s_ok (by omega) (by omega)) (s_ok (by decide) (by decide))] at h
          have h : ¬ -v < -9 := of_decide_eq_true h
          omega
        · intro _
          apply And.intro
          · show 0 ≤ - -v ∧ - -v < ((100 : Nat) : Int)
            omega
          · apply And.intro
            · show 0 ≤ (n : Int) + 2 + -1 + -1 ∧ (n : Int) + 2 + -1 + -1 < ((34 : Nat) : Int)
              omega
            · apply And.intro
              · intro _
                show Q (.inl ((n : Int) + 2 + -1 + -1)) (z_st (q_upd (q_upd m 165 ((n : Int) + 2 + -1).toNat (q_i2b (m 1004 (- -v).toNat))) 165 ((n : Int) + 2 + -1 + -1).toNat (q_i2b ((q_upd m 165 ((n : Int) + 2 + -1).toNat (q_i2b (m 1004 (- -v).toNat))) 1003 (- -v).toNat))) (L, 165, [(2,34)], sl))
                rw [show - -v = v by omega, z_un (a := 165) (b := 1003) (by omega), hd, hd2, s_i2b (by omega) (by omega), s_i2b (by omega) (by omega), show ((n : Int) + 2 + -1).toNat = n + 1 by omega, show ((n : Int) + 2 + -1 + -1).toNat = n by omega]
                exact kk _
              · intro h
                exact absurd h (by decide)
  have t13 : z_T 172 13 [.inl (-v), .inl ((n : Int) + 2), .inr (.inr 165), q_dead, q_dead, .inl ((n : Int) + 2), .inl 0] [] (z_st m (L, 165, [(2,34)], sl)) Q := by
    refine z_wp_T (cd := q_c172) (cs := [43]) rfl 60 13 _ _ _ _ ?_
    apply And.intro
    · intro _
      exact t43
    · intro h
      have h : q_cond 4 (q_w (-v)) (q_w (-100)) = false := h
      rw [z_c (s_ok (by omega) (by omega)) (s_ok (by decide) (by decide))] at h
      have h : ¬ -100 < -v := of_decide_eq_false h
      omega
  apply And.intro
  · intro _
    apply And.intro
    · intro h
      exact absurd h (by decide)
    · intro _
      exact t13
  · intro h
    have h : q_cond 3 (q_w v) 0 = false := h
    rw [z_c0 (s_ok (by omega) (by omega))] at h
    have h : ¬ ¬ v < 0 := of_decide_eq_false h
    omega
set_option maxRecDepth 10000 in
theorem s_put_c {L sl : Nat} {m : z_M} {Q : q_V → q_S → Prop} {n : Nat} {c : Int} (h1 : m 125 1 = 0) (h3 : m 125 3 = (n : Int)) (hn : (n : Int) + 1 ≤ 70) (c0 : 0 ≤ c) (c1 : c < 128) (kk : Q (.inr (.inr 125)) (z_st (q_upd (q_upd m 125 3 ((n : Int) + 1)) 166 n c) (L, 166, [(2,34),(2,70)], sl))) : z_T 165 6 [.inr (.inr 125), .inl c] [] (z_st m (L, 166, [(2,34),(2,70)], sl)) Q := by
  refine z_wp_T (cd := q_c165) (cs := [8, 11]) rfl 30 6 _ _ _ _ ?_
  refine s_isLatin1 h1 ?_
  refine z_wp_T (cd := q_c165) (cs := [11]) rfl 30 8 _ _ _ _ ?_
  apply And.intro
  · intro h
    exact absurd h (by decide)
  · intro _
    refine s_canEncode c0 c1 ?_
    refine z_wp_T (cd := q_c165) (cs := []) rfl 30 11 _ _ _ _ ?_
    apply And.intro
    · intro h
      exact absurd h (by decide)
    · intro _
      apply And.intro
      · show 0 ≤ m 125 3 ∧ m 125 3 < ((70 : Nat) : Int)
        rw [h3]
        omega
      · show Q (.inr (.inr 125)) (z_st (q_upd (q_upd m 125 3 (m 125 3 + 1)) 166 (m 125 3).toNat (q_i2b (q_i2b c))) (L, 166, [(2,34),(2,70)], sl))
        rw [h3, s_i2b c0 c1, s_i2b c0 c1, Int.toNat_natCast]
        exact kk
set_option maxRecDepth 10000 in
theorem s_get1_c {L sl : Nat} {m : z_M} {Q : q_V → q_S → Prop} {n : Nat} {v : Int} (hD : i_D m) (hn : (n : Int) + 1 ≤ 70) (v0 : 0 ≤ v) (v9 : v ≤ 9) (kk : ∀ w, Q (.inl w) (z_st (q_upd m 166 n (48 + v)) (L, 166, [(2,34),(2,70)], sl))) : z_C 172 [.inl v, .inl ((n : Int) + 1), .inr (.inr 166)] (z_st m (L, 166, [(2,34),(2,70)], sl)) Q := by
  have hd : m 1004 v.toNat = 48 + v := by
    rw [(hD v.toNat (by omega)).2]
    unfold q_do
    omega
  refine z_C_wp [43, 13] 100 s_P172 ?_
  have t43 : z_T 172 43 [.inl (-v), .inl ((n : Int) + 1), .inr (.inr 166), q_dead, q_dead, .inl ((n : Int) + 1), .inl 0] [] (z_st m (L, 166, [(2,34),(2,70)], sl)) Q := by
    refine z_wp_T (cd := q_c172) (cs := []) rfl 60 43 _ _ _ _ ?_
    apply And.intro
    · show 0 ≤ - -v ∧ - -v < ((100 : Nat) : Int)
      omega
    · apply And.intro
      · show 0 ≤ (n : Int) + 1 + -1 ∧ (n : Int) + 1 + -1 < ((70 : Nat) : Int)
        omega
      · apply And.intro
        · intro _
          apply And.intro
          · intro _
            show Q (.inl ((n : Int) + 1 + -1)) (z_st (q_upd m 166 ((n : Int) + 1 + -1).toNat (q_i2b (m 1004 (- -v).toNat))) (L, 166, [(2,34),(2,70)], sl))
            rw [show (n : Int) + 1 + -1 = (n : Int) by omega, show - -v = v by omega, hd, s_i2b (by omega) (by omega), Int.toNat_natCast]
            exact kk _
          · intro h
            exact absurd h (by decide)
        · intro h
          have h : q_cond 3 (q_w (-v)) (q_w (-9)) = false := h
          rw [z_c (s_ok (by omega) (by omega)) (s_ok (by decide) (by decide))] at h
          have h : ¬ ¬ -v < -9 := of_decide_eq_false h
          omega
  have t13 : z_T 172 13 [.inl (-v), .inl ((n : Int) + 1), .inr (.inr 166), q_dead, q_dead, .inl ((n : Int) + 1), .inl 0] [] (z_st m (L, 166, [(2,34),(2,70)], sl)) Q := by
    refine z_wp_T (cd := q_c172) (cs := [43]) rfl 60 13 _ _ _ _ ?_
    apply And.intro
    · intro _
      exact t43
    · intro h
      have h : q_cond 4 (q_w (-v)) (q_w (-100)) = false := h
      rw [z_c (s_ok (by omega) (by omega)) (s_ok (by decide) (by decide))] at h
      have h : ¬ -100 < -v := of_decide_eq_false h
      omega
  apply And.intro
  · intro _
    apply And.intro
    · intro h
      exact absurd h (by decide)
    · intro _
      exact t13
  · intro h
    have h : q_cond 3 (q_w v) 0 = false := h
    rw [z_c0 (s_ok (by omega) (by omega))] at h
    have h : ¬ ¬ v < 0 := of_decide_eq_false h
    omega
set_option maxRecDepth 10000 in
theorem s_get2_c {L sl : Nat} {m : z_M} {Q : q_V → q_S → Prop} {n : Nat} {v : Int} (hD : i_D m) (hn : (n : Int) + 2 ≤ 70) (v0 : 10 ≤ v) (v9 : v ≤ 99) (kk : ∀ w, Q (.inl w) (z_st (q_upd (q_upd m 166 (n + 1) (48 + v % 10)) 166 n (48 + v / 10)) (L, 166, [(2,34),(2,70)], sl))) : z_C 172 [.inl v, .inl ((n : Int) + 2), .inr (.inr 166)] (z_st m (L, 166, [(2,34),(2,70)], sl)) Q := by
  have hd : m 1004 v.toNat = 48 + v % 10 := by
    rw [(hD v.toNat (by omega)).2]
    unfold q_do
    omega
  have hd2 : m 1003 v.toNat = 48 + v / 10 := by
    rw [(hD v.toNat (by omega)).1]
    unfold q_dt
    omega
  refine z_C_wp [43, 13] 100 s_P172 ?_
  have t43 : z_T 172 43 [.inl (-v), .inl ((n : Int) + 2), .inr (.inr 166), q_dead, q_dead, .inl ((n : Int) + 2), .inl 0] [] (z_st m (L, 166, [(2,34),(2,70)], sl)) Q := by
    refine z_wp_T (cd := q_c172) (cs := []) rfl 60 43 _ _ _ _ ?_
    apply And.intro
    · show 0 ≤ - -v ∧ - -v < ((100 : Nat) : Int)
      omega
    · apply And.intro
      · show 0 ≤ (n : Int) + 2 + -1 ∧ (n : Int) + 2 + -1 < ((70 : Nat) : Int)
        omega
      · apply And.intro
        · intro h
          have h : q_cond 3 (q_w (-v)) (q_w (-9)) = true := h
          rw [z_c (s_ok (by omega) (by omega)) (s_ok (by decide) (by decide))] at h
          have h : ¬ -v < -9 := of_decide_eq_true h
          omega
        · intro _
          apply And.intro
          · show 0 ≤ - -v ∧ - -v < ((100 : Nat) : Int)
            omega
          · apply And.intro
            · show 0 ≤ (n : Int) + 2 + -1 + -1 ∧ (n : Int) + 2 + -1 + -1 < ((70 : Nat) : Int)
              omega
            · apply And.intro
              · intro _
                show Q (.inl ((n : Int) + 2 + -1 + -1)) (z_st (q_upd (q_upd m 166 ((n : Int) + 2 + -1).toNat (q_i2b (m 1004 (- -v).toNat))) 166 ((n : Int) + 2 + -1 + -1).toNat (q_i2b ((q_upd m 166 ((n : Int) + 2 + -1).toNat (q_i2b (m 1004 (- -v).toNat))) 1003 (- -v).toNat))) (L, 166, [(2,34),(2,70)], sl))
                rw [show - -v = v by omega, z_un (a := 166) (b := 1003) (by omega), hd, hd2, s_i2b (by omega) (by omega), s_i2b (by omega) (by omega), show ((n : Int) + 2 + -1).toNat = n + 1 by omega, show ((n : Int) + 2 + -1 + -1).toNat = n by omega]
                exact kk _
              · intro h
                exact absurd h (by decide)
  have t13 : z_T 172 13 [.inl (-v), .inl ((n : Int) + 2), .inr (.inr 166), q_dead, q_dead, .inl ((n : Int) + 2), .inl 0] [] (z_st m (L, 166, [(2,34),(2,70)], sl)) Q := by
    refine z_wp_T (cd := q_c172) (cs := [43]) rfl 60 13 _ _ _ _ ?_
    apply And.intro
    · intro _
      exact t43
    · intro h
      have h : q_cond 4 (q_w (-v)) (q_w (-100)) = false := h
      rw [z_c (s_ok (by omega) (by omega)) (s_ok (by decide) (by decide))] at h
      have h : ¬ -100 < -v := of_decide_eq_false h
      omega
  apply And.intro
  · intro _
    apply And.intro
    · intro h
      exact absurd h (by decide)
    · intro _
      exact t13
  · intro h
    have h : q_cond 3 (q_w v) 0 = false := h
    rw [z_c0 (s_ok (by omega) (by omega))] at h
    have h : ¬ ¬ v < 0 := of_decide_eq_false h
    omega
theorem s_size {m : z_M} {g : z_g} {Q : q_V → q_S → Prop} {v : Int} (v0 : 0 ≤ v) (v99 : v ≤ 99) (k1 : v ≤ 9 → Q (.inl 1) (z_st m g)) (k2 : 10 ≤ v → Q (.inl 2) (z_st m g)) : z_C 171 [.inl v] (z_st m g) Q := by
  refine z_C_wp [13] 40 s_P171 ?_
  have t3 : z_T 171 13 [.inl (-v), .inl 0, .inl (10 * -10), .inl (1 + 1)] [] (z_st m g) Q ∨ v ≤ 9 := by
    by_cases h9 : v ≤ 9
    · exact Or.inr h9
    · left
      refine z_wp_T (cd := q_c171) (cs := []) rfl 20 13 _ _ _ _ ?_
      apply And.intro
      · intro h
        exact absurd h (by decide)
      · intro _
        apply And.intro
        · intro h
          have h : q_cond 5 (q_w (-v)) (q_w (10 * -10)) = true := h
          rw [z_c (s_ok (by omega) (by omega)) (s_ok (by decide) (by decide))] at h
          have h : ¬ 10 * -10 < -v := of_decide_eq_true h
          omega
        · intro _
          exact k2 (by omega)
  have t1 : z_T 171 13 [.inl (-v), .inl 0, .inl (-10), .inl 1] [] (z_st m g) Q := by
    refine z_wp_T (cd := q_c171) (cs := [13]) rfl 20 13 _ _ _ _ ?_
    apply And.intro
    · intro h
      exact absurd h (by decide)
    · intro _
      apply And.intro
      · intro h
        have h : q_cond 5 (q_w (-v)) (q_w (-10)) = true := h
        rw [z_c (s_ok (by omega) (by omega)) (s_ok (by decide) (by decide))] at h
        have h : ¬ -10 < -v := of_decide_eq_true h
        rcases t3 with t3 | t3
        · exact t3
        · omega
      · intro h
        have h : q_cond 5 (q_w (-v)) (q_w (-10)) = false := h
        rw [z_c (s_ok (by omega) (by omega)) (s_ok (by decide) (by decide))] at h
        have h : ¬ ¬ -10 < -v := of_decide_eq_false h
        exact k1 (by omega)
  apply And.intro
  · intro h
    have h : q_cond 2 (q_w v) 0 = true := h
    rw [z_c0 (s_ok (by omega) (by omega))] at h
    have h : v < 0 := of_decide_eq_true h
    omega
  · intro _
    exact t1
