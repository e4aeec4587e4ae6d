/-! compares, read off at once -/
theorem z_lt1 {x y : Int} (hx : z_ok x) (hy : z_ok y) (h : q_cond 2 (q_w x) (q_w y) = true) : x < y := by rw [z_c hx hy] at h; exact of_decide_eq_true h
theorem z_lt0 {x y : Int} (hx : z_ok x) (hy : z_ok y) (h : q_cond 2 (q_w x) (q_w y) = false) : ¬ x < y := by rw [z_c hx hy] at h; exact of_decide_eq_false h
theorem z_ge1 {x y : Int} (hx : z_ok x) (hy : z_ok y) (h : q_cond 3 (q_w x) (q_w y) = true) : y ≤ x := by rw [z_c hx hy] at h; have h : ¬ x < y := of_decide_eq_true h; omega
theorem z_ge0 {x y : Int} (hx : z_ok x) (hy : z_ok y) (h : q_cond 3 (q_w x) (q_w y) = false) : x < y := by rw [z_c hx hy] at h; have h : ¬ ¬ x < y := of_decide_eq_false h; omega
theorem z_gt1 {x y : Int} (hx : z_ok x) (hy : z_ok y) (h : q_cond 4 (q_w x) (q_w y) = true) : y < x := by rw [z_c hx hy] at h; exact of_decide_eq_true h
theorem z_gt0 {x y : Int} (hx : z_ok x) (hy : z_ok y) (h : q_cond 4 (q_w x) (q_w y) = false) : x ≤ y := by rw [z_c hx hy] at h; have h : ¬ y < x := of_decide_eq_false h; omega
theorem z_le1 {x y : Int} (hx : z_ok x) (hy : z_ok y) (h : q_cond 5 (q_w x) (q_w y) = true) : x ≤ y := by rw [z_c hx hy] at h; have h : ¬ y < x := of_decide_eq_true h; omega
theorem z_le0 {x y : Int} (hx : z_ok x) (hy : z_ok y) (h : q_cond 5 (q_w x) (q_w y) = false) : y < x := by rw [z_c hx hy] at h; have h : ¬ ¬ y < x := of_decide_eq_false h; omega
theorem z_eq1 {x y : Int} (hx : z_ok x) (hy : z_ok y) (h : q_cond 0 (q_w x) (q_w y) = true) : x = y := by rw [z_c hx hy] at h; exact of_decide_eq_true h
theorem z_eq0 {x y : Int} (hx : z_ok x) (hy : z_ok y) (h : q_cond 0 (q_w x) (q_w y) = false) : ¬ x = y := by rw [z_c hx hy] at h; exact of_decide_eq_false h
theorem z_ne1 {x y : Int} (hx : z_ok x) (hy : z_ok y) (h : q_cond 1 (q_w x) (q_w y) = true) : ¬ x = y := by rw [z_c hx hy] at h; exact of_decide_eq_true h
theorem z_ne0 {x y : Int} (hx : z_ok x) (hy : z_ok y) (h : q_cond 1 (q_w x) (q_w y) = false) : x = y := by rw [z_c hx hy] at h; have h : ¬ ¬ x = y := of_decide_eq_false h; omega
/-! THE LAW'S LOOP, over any invariant I of the numbers and g: what is left of it are its 38 cases and the constructors -/
def z_LS (i : Nat) : List q_V := [.inr (.inr 1001), .inr (.inr 0), .inr (.inr 131), .inl (i : Int)]
def z_Q : q_V → q_S → Prop := fun r S' => r = .inl 1 ∧ S'.2.2.1.length ≤ 600000 ∧ S'.2.2.2 ≤ 7302250
/-- where case k of the law begins -/
def z_pc : List Nat := [22, 39, 56, 83, 120, 157, 194, 231, 258, 295, 332, 359, 396, 413, 450, 477, 514, 541, 568, 585, 612, 639, 656, 694, 721, 758, 795, 812, 819, 836, 853, 860, 887, 948, 976, 1033, 1040, 1047]
/-- case k: from its first instruction, with the invariant, to the loop's end with the invariant -/
def z_case (I : z_M → z_g → Prop) (L : Nat) (k : Nat) : Prop := ∀ (m : z_M) (g : z_g) (i : Nat), I m g → i + 6 ≤ L → (∀ m' g', I m' g' → z_T 296 1064 (z_LS i) [] (z_st m' g') z_Q) → z_T 296 (z_pc.getD k 0) (z_LS i) [] (z_st m g) z_Q
set_option maxRecDepth 100000 in
set_option maxHeartbeats 4000000 in
theorem l_loop {I : z_M → z_g → Prop} {L : Nat} (hL : L ≤ 3072) (hI : ∀ m g, I m g → g.1 = L ∧ (q_sh0 ++ g.2.2.1).length ≤ 600000 ∧ g.2.2.2 ≤ 7302250) (hc : ∀ k, k < 38 → z_case I L k) : ∀ (d i : Nat) (m : z_M) (g : z_g), L + 6 - i ≤ d → i ≤ L → I m g → z_T 296 10 (z_LS i) [] (z_st m g) z_Q
  | 0, i, m, g, hd, hi, h => by omega
  | d + 1, i, m, g, hd, hi, h => by
    obtain ⟨e1, e2, e3⟩ := hI m g h
    have ho1 : z_ok (i : Int) := ⟨by omega, by omega⟩
    have ho2 : z_ok ((g.1 : Int) - 6) := ⟨by omega, by omega⟩
    have back : i + 6 ≤ L → ∀ m' g', I m' g' → z_T 296 1064 (z_LS i) [] (z_st m' g') z_Q := fun hi6 m' g' h' => by
      refine z_wp_T (cd := q_c296) (cs := [10]) rfl 3 1064 _ _ _ _ ?_
      exact l_loop hL hI hc d (i + 6) m' g' (by omega) (by omega) h'
    refine z_wp_T (cd := q_c296) (cs := 1064 :: z_pc) rfl 20 10 _ _ _ _ ?_
    apply And.intro
    · intro hb
      exact ⟨rfl, e2, e3⟩
    · intro hb
      have hb : q_cond 4 (q_w (i : Int)) (q_w ((g.1 : Int) - 6)) = false := hb
      have hb := z_gt0 ho1 ho2 hb
      have hi6 : i + 6 ≤ L := by omega
      apply And.intro
      · exact ⟨by omega, by show (i : Int) < (g.1 : Int); omega⟩
      apply And.intro
      · intro _
        exact hc 0 (by decide) m g i h hi6 (back hi6)
      intro _
      apply And.intro
      · intro _
        exact hc 1 (by decide) m g i h hi6 (back hi6)
      intro _
      apply And.intro
      · intro _
        exact hc 2 (by decide) m g i h hi6 (back hi6)
      intro _
      apply And.intro
      · intro _
        exact hc 3 (by decide) m g i h hi6 (back hi6)
      intro _
      apply And.intro
      · intro _
        exact hc 4 (by decide) m g i h hi6 (back hi6)
      intro _
      apply And.intro
      · intro _
        exact hc 5 (by decide) m g i h hi6 (back hi6)
      intro _
      apply And.intro
      · intro _
        exact hc 6 (by decide) m g i h hi6 (back hi6)
      intro _
      apply And.intro
      · intro _
        exact hc 7 (by decide) m g i h hi6 (back hi6)
      intro _
      apply And.intro
      · intro _
        exact hc 8 (by decide) m g i h hi6 (back hi6)
      intro _
      apply And.intro
      · intro _
        exact hc 9 (by decide) m g i h hi6 (back hi6)
      intro _
      apply And.intro
      · intro _
        exact hc 10 (by decide) m g i h hi6 (back hi6)
      intro _
      apply And.intro
      · intro _
        exact hc 11 (by decide) m g i h hi6 (back hi6)
      intro _
      apply And.intro
      · intro _
        exact hc 12 (by decide) m g i h hi6 (back hi6)
      intro _
      apply And.intro
      · intro _
        exact hc 13 (by decide) m g i h hi6 (back hi6)
      intro _
      apply And.intro
      · intro _
        exact hc 14 (by decide) m g i h hi6 (back hi6)
      intro _
      apply And.intro
      · intro _
        exact hc 15 (by decide) m g i h hi6 (back hi6)
      intro _
      apply And.intro
      · intro _
        exact hc 16 (by decide) m g i h hi6 (back hi6)
      intro _
      apply And.intro
      · intro _
        exact hc 17 (by decide) m g i h hi6 (back hi6)
      intro _
      apply And.intro
      · intro _
        exact hc 18 (by decide) m g i h hi6 (back hi6)
      intro _
      apply And.intro
      · intro _
        exact hc 19 (by decide) m g i h hi6 (back hi6)
      intro _
      apply And.intro
      · intro _
        exact hc 20 (by decide) m g i h hi6 (back hi6)
      intro _
      apply And.intro
      · intro _
        exact hc 21 (by decide) m g i h hi6 (back hi6)
      intro _
      apply And.intro
      · intro _
        exact hc 22 (by decide) m g i h hi6 (back hi6)
      intro _
      apply And.intro
      · intro _
        exact hc 23 (by decide) m g i h hi6 (back hi6)
      intro _
      apply And.intro
      · intro _
        exact hc 24 (by decide) m g i h hi6 (back hi6)
      intro _
      apply And.intro
      · intro _
        exact hc 25 (by decide) m g i h hi6 (back hi6)
      intro _
      apply And.intro
      · intro _
        exact hc 26 (by decide) m g i h hi6 (back hi6)
      intro _
      apply And.intro
      · intro _
        exact hc 27 (by decide) m g i h hi6 (back hi6)
      intro _
      apply And.intro
      · intro _
        exact hc 28 (by decide) m g i h hi6 (back hi6)
      intro _
      apply And.intro
      · intro _
        exact hc 29 (by decide) m g i h hi6 (back hi6)
      intro _
      apply And.intro
      · intro _
        exact hc 30 (by decide) m g i h hi6 (back hi6)
      intro _
      apply And.intro
      · intro _
        exact hc 31 (by decide) m g i h hi6 (back hi6)
      intro _
      apply And.intro
      · intro _
        exact hc 32 (by decide) m g i h hi6 (back hi6)
      intro _
      apply And.intro
      · intro _
        exact hc 33 (by decide) m g i h hi6 (back hi6)
      intro _
      apply And.intro
      · intro _
        exact hc 34 (by decide) m g i h hi6 (back hi6)
      intro _
      apply And.intro
      · intro _
        exact hc 35 (by decide) m g i h hi6 (back hi6)
      intro _
      apply And.intro
      · intro _
        exact hc 36 (by decide) m g i h hi6 (back hi6)
      intro _
      apply And.intro
      · intro _
        exact hc 37 (by decide) m g i h hi6 (back hi6)
      intro _
      exact back hi6 m g h
