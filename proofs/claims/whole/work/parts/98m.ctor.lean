/-! THE CONSTRUCTORS, piece by piece (written by wip/whole/ctor2.py) -/
theorem e_upd {r : Nat → Nat → Nat} {a i v : Nat} (h : r a i = v) : r = q_upd r a i v := by
  funext x y
  by_cases hh : x = a ∧ y = i
  · rw [z_ue hh.1 hh.2, hh.1, hh.2, h]
  · rw [z_un hh]
theorem e_P9 : q_P 9 = (q_c9, 1) := rfl
set_option maxRecDepth 100000 in
theorem e_k11 (m : z_M) (r : Nat → Nat → Nat) {Q : q_V → q_S → Prop} (k : Q q_dead (e_M [(0, 115, 0, 0), (0, 120, 0, 0), (1, 120, 0, -1), (1, 120, 1, -1), (1, 120, 2, -1), (1, 120, 3, -1)] m, e_R [(0, 115, 0, 0), (2, 115, 4, 0), (1, 114, 0, 115), (0, 120, 0, 0), (1, 114, 1, 120)] r, e_H 121, 1559)) : z_C 9 [.inr (.inr 114)] (m, r, e_H 115, 1471) Q := by
  refine z_C_wp [15] 40 e_P9 ?_
  refine z_C_of_run 200 _ _ (e_k10 _ _) ?_
  refine z_wp_T (cd := q_c9) (cs := []) rfl 5 15 _ _ _ _ ?_
  exact k
set_option maxRecDepth 100000 in
theorem e_x0 (m : z_M) (r : Nat → Nat → Nat) {Q : q_V → q_S → Prop} (k : z_T 0 7 [.inr (.inr 0)] [] (e_M [(0, 1, 0, 0), (1, 1, 0, 1), (0, 2, 0, 0), (0, 3, 0, 0), (0, 4, 0, 0), (0, 5, 0, 0), (0, 6, 0, 0), (0, 13, 0, 0), (0, 14, 0, 0)] m, e_R [(0, 1, 0, 0), (0, 2, 0, 0), (1, 1, 2, 2), (0, 3, 0, 0), (1, 1, 4, 3), (0, 4, 0, 0), (1, 1, 5, 4), (0, 5, 0, 0), (1, 1, 6, 5), (0, 6, 0, 0), (2, 6, 6, 0), (1, 1, 7, 6), (0, 13, 0, 0), (1, 1, 9, 13), (0, 14, 0, 0), (1, 1, 10, 14), (1, 0, 0, 1)] r, e_H 15, 142) Q) : z_T 0 2 [.inr (.inr 0)] [] (m, r, e_H 1, 15) Q := by
  refine z_wp_T (cd := q_c0) (cs := [6]) rfl 20 2 _ _ _ _ ?_
  refine z_C_of_run 200 _ _ (e_k0 _ _) ?_
  refine z_wp_T (cd := q_c0) (cs := [7]) rfl 20 6 _ _ _ _ ?_
  exact k
set_option maxRecDepth 100000 in
theorem e_x1 (m : z_M) (r : Nat → Nat → Nat) {Q : q_V → q_S → Prop} (k : z_T 0 12 [.inr (.inr 0)] [] (e_M [(0, 15, 0, 0), (1, 15, 0, 1), (0, 16, 0, 0), (0, 17, 0, 0), (0, 18, 0, 0), (0, 19, 0, 0), (0, 20, 0, 0), (0, 27, 0, 0), (0, 28, 0, 0)] m, e_R [(0, 15, 0, 0), (0, 16, 0, 0), (1, 15, 2, 16), (0, 17, 0, 0), (1, 15, 4, 17), (0, 18, 0, 0), (1, 15, 5, 18), (0, 19, 0, 0), (1, 15, 6, 19), (0, 20, 0, 0), (2, 20, 6, 0), (1, 15, 7, 20), (0, 27, 0, 0), (1, 15, 9, 27), (0, 28, 0, 0), (1, 15, 10, 28), (1, 0, 1, 15)] r, e_H 29, 269) Q) : z_T 0 7 [.inr (.inr 0)] [] (m, r, e_H 15, 142) Q := by
  refine z_wp_T (cd := q_c0) (cs := [11]) rfl 20 7 _ _ _ _ ?_
  refine z_C_of_run 200 _ _ (e_k1 _ _) ?_
  refine z_wp_T (cd := q_c0) (cs := [12]) rfl 20 11 _ _ _ _ ?_
  exact k
set_option maxRecDepth 100000 in
theorem e_x2 (m : z_M) (r : Nat → Nat → Nat) {Q : q_V → q_S → Prop} (k : z_T 0 17 [.inr (.inr 0)] [] (e_M [(0, 29, 0, 0), (0, 30, 0, 0), (0, 62, 0, 0)] m, e_R [(0, 29, 0, 0), (0, 30, 0, 0), (2, 30, 31, 0), (1, 29, 1, 30), (0, 62, 0, 0), (1, 29, 2, 62), (1, 0, 3, 29)] r, e_H 63, 737) Q) : z_T 0 12 [.inr (.inr 0)] [] (m, r, e_H 29, 269) Q := by
  refine z_wp_T (cd := q_c0) (cs := [16]) rfl 20 12 _ _ _ _ ?_
  refine z_C_of_run 200 _ _ (e_k2 _ _) ?_
  refine z_wp_T (cd := q_c0) (cs := [17]) rfl 20 16 _ _ _ _ ?_
  exact k
set_option maxRecDepth 100000 in
theorem e_x3 (m : z_M) (r : Nat → Nat → Nat) {Q : q_V → q_S → Prop} (k : z_T 0 22 [.inr (.inr 0)] [] (e_M [(0, 63, 0, 0), (0, 64, 0, 0)] m, e_R [(0, 63, 0, 0), (0, 64, 0, 0), (1, 63, 0, 64), (1, 0, 4, 63)] r, e_H 65, 745) Q) : z_T 0 17 [.inr (.inr 0)] [] (m, r, e_H 63, 737) Q := by
  refine z_wp_T (cd := q_c0) (cs := [21]) rfl 20 17 _ _ _ _ ?_
  refine z_C_of_run 200 _ _ (e_k3 _ _) ?_
  refine z_wp_T (cd := q_c0) (cs := [22]) rfl 20 21 _ _ _ _ ?_
  exact k
set_option maxRecDepth 100000 in
theorem e_x4 (m : z_M) (r : Nat → Nat → Nat) {Q : q_V → q_S → Prop} (hr : r 0 3 = 29) (k : z_T 0 29 [.inr (.inr 0)] [] (e_M [(0, 65, 0, 0), (0, 66, 0, 0), (0, 67, 0, 0), (0, 68, 0, 0), (0, 69, 0, 0)] m, e_R [(0, 65, 0, 0), (1, 65, 0, 29), (0, 66, 0, 0), (0, 67, 0, 0), (1, 66, 0, 67), (1, 65, 1, 66), (0, 68, 0, 0), (1, 65, 2, 68), (0, 69, 0, 0), (1, 65, 3, 69), (1, 0, 5, 65)] r, e_H 70, 771) Q) : z_T 0 22 [.inr (.inr 0)] [] (m, r, e_H 65, 745) Q := by
  have er : r = q_upd r 0 3 29 := e_upd hr
  obtain ⟨r2, rfl⟩ : ∃ r2 : Nat → Nat → Nat, r = q_upd r2 0 3 29 := ⟨r, er⟩
  refine z_wp_T (cd := q_c0) (cs := [28]) rfl 20 22 _ _ _ _ ?_
  refine z_C_of_run 200 _ _ (e_k5 _ _) ?_
  refine z_wp_T (cd := q_c0) (cs := [29]) rfl 20 28 _ _ _ _ ?_
  exact k
set_option maxRecDepth 100000 in
theorem e_x5 (m : z_M) (r : Nat → Nat → Nat) {Q : q_V → q_S → Prop} (hr : r 0 3 = 29) (k : z_T 0 36 [.inr (.inr 0)] [] (e_M [(0, 70, 0, 0), (0, 71, 0, 0), (0, 72, 0, 0), (0, 73, 0, 0), (0, 74, 0, 0)] m, e_R [(0, 70, 0, 0), (1, 70, 0, 29), (0, 71, 0, 0), (1, 70, 2, 71), (0, 72, 0, 0), (1, 70, 3, 72), (0, 73, 0, 0), (1, 70, 4, 73), (0, 74, 0, 0), (1, 70, 5, 74), (1, 0, 6, 70)] r, e_H 75, 830) Q) : z_T 0 29 [.inr (.inr 0)] [] (m, r, e_H 70, 771) Q := by
  have er : r = q_upd r 0 3 29 := e_upd hr
  obtain ⟨r2, rfl⟩ : ∃ r2 : Nat → Nat → Nat, r = q_upd r2 0 3 29 := ⟨r, er⟩
  refine z_wp_T (cd := q_c0) (cs := [35]) rfl 20 29 _ _ _ _ ?_
  refine z_C_of_run 200 _ _ (e_k6 _ _) ?_
  refine z_wp_T (cd := q_c0) (cs := [36]) rfl 20 35 _ _ _ _ ?_
  exact k
set_option maxRecDepth 100000 in
theorem e_x6 (m : z_M) (r : Nat → Nat → Nat) {Q : q_V → q_S → Prop} (hr : r 0 3 = 29) (k : z_T 0 43 [.inr (.inr 0)] [] (e_M [(0, 75, 0, 0), (0, 76, 0, 0)] m, e_R [(0, 75, 0, 0), (1, 75, 0, 29), (0, 76, 0, 0), (2, 76, 23, 0), (1, 75, 1, 76), (1, 0, 7, 75)] r, e_H 100, 1385) Q) : z_T 0 36 [.inr (.inr 0)] [] (m, r, e_H 75, 830) Q := by
  have er : r = q_upd r 0 3 29 := e_upd hr
  obtain ⟨r2, rfl⟩ : ∃ r2 : Nat → Nat → Nat, r = q_upd r2 0 3 29 := ⟨r, er⟩
  refine z_wp_T (cd := q_c0) (cs := [42]) rfl 20 36 _ _ _ _ ?_
  refine z_C_of_run 200 _ _ (e_k7 _ _) ?_
  refine z_wp_T (cd := q_c0) (cs := [43]) rfl 20 42 _ _ _ _ ?_
  exact k
set_option maxRecDepth 100000 in
theorem e_x7 (m : z_M) (r : Nat → Nat → Nat) {Q : q_V → q_S → Prop} (hr : r 0 3 = 29) (k : z_T 0 50 [.inr (.inr 0)] [] (e_M [(0, 100, 0, 0), (0, 101, 0, 0), (0, 108, 0, 0)] m, e_R [(0, 100, 0, 0), (1, 100, 0, 29), (0, 101, 0, 0), (2, 101, 6, 0), (1, 100, 1, 101), (0, 108, 0, 0), (1, 100, 2, 108), (1, 0, 8, 100)] r, e_H 109, 1432) Q) : z_T 0 43 [.inr (.inr 0)] [] (m, r, e_H 100, 1385) Q := by
  have er : r = q_upd r 0 3 29 := e_upd hr
  obtain ⟨r2, rfl⟩ : ∃ r2 : Nat → Nat → Nat, r = q_upd r2 0 3 29 := ⟨r, er⟩
  refine z_wp_T (cd := q_c0) (cs := [49]) rfl 20 43 _ _ _ _ ?_
  refine z_C_of_run 200 _ _ (e_k8 _ _) ?_
  refine z_wp_T (cd := q_c0) (cs := [50]) rfl 20 49 _ _ _ _ ?_
  exact k
set_option maxRecDepth 100000 in
theorem e_x8 (m : z_M) (r : Nat → Nat → Nat) {Q : q_V → q_S → Prop} (k : z_T 0 55 [.inr (.inr 0)] [] (e_M [(0, 109, 0, 0), (0, 110, 0, 0), (0, 111, 0, 0), (0, 112, 0, 0), (0, 113, 0, 0)] m, e_R [(0, 109, 0, 0), (0, 110, 0, 0), (1, 109, 1, 110), (0, 111, 0, 0), (1, 109, 2, 111), (0, 112, 0, 0), (1, 109, 3, 112), (0, 113, 0, 0), (1, 109, 4, 113), (1, 0, 9, 109)] r, e_H 114, 1469) Q) : z_T 0 50 [.inr (.inr 0)] [] (m, r, e_H 109, 1432) Q := by
  refine z_wp_T (cd := q_c0) (cs := [54]) rfl 20 50 _ _ _ _ ?_
  refine z_C_of_run 200 _ _ (e_k9 _ _) ?_
  refine z_wp_T (cd := q_c0) (cs := [55]) rfl 20 54 _ _ _ _ ?_
  exact k
set_option maxRecDepth 100000 in
theorem e_x9 (m : z_M) (r : Nat → Nat → Nat) {Q : q_V → q_S → Prop} (k : z_T 0 60 [.inr (.inr 0)] [] (e_M [(0, 114, 0, 0), (0, 115, 0, 0), (0, 120, 0, 0), (1, 120, 0, -1), (1, 120, 1, -1), (1, 120, 2, -1), (1, 120, 3, -1)] m, e_R [(0, 114, 0, 0), (0, 115, 0, 0), (2, 115, 4, 0), (1, 114, 0, 115), (0, 120, 0, 0), (1, 114, 1, 120), (1, 0, 10, 114)] r, e_H 121, 1559) Q) : z_T 0 55 [.inr (.inr 0)] [] (m, r, e_H 114, 1469) Q := by
  refine z_wp_T (cd := q_c0) (cs := [59]) rfl 20 55 _ _ _ _ ?_
  refine e_k11 _ _ ?_
  refine z_wp_T (cd := q_c0) (cs := [60]) rfl 20 59 _ _ _ _ ?_
  exact k
set_option maxRecDepth 100000 in
theorem e_x10 (m : z_M) (r : Nat → Nat → Nat) {Q : q_V → q_S → Prop} (k : z_T 0 65 [.inr (.inr 0)] [] (e_M [(0, 121, 0, 0), (0, 122, 0, 0), (0, 123, 0, 0), (0, 124, 0, 0)] m, e_R [(0, 121, 0, 0), (0, 122, 0, 0), (1, 121, 0, 122), (0, 123, 0, 0), (1, 121, 3, 123), (0, 124, 0, 0), (1, 121, 4, 124), (1, 0, 11, 121)] r, e_H 125, 1664) Q) : z_T 0 60 [.inr (.inr 0)] [] (m, r, e_H 121, 1559) Q := by
  refine z_wp_T (cd := q_c0) (cs := [64]) rfl 20 60 _ _ _ _ ?_
  refine z_C_of_run 200 _ _ (e_k12 _ _) ?_
  refine z_wp_T (cd := q_c0) (cs := [65]) rfl 20 64 _ _ _ _ ?_
  exact k
set_option maxRecDepth 100000 in
theorem e_x11 (m : z_M) (r : Nat → Nat → Nat) {Q : q_V → q_S → Prop} (k : z_T 0 70 [.inr (.inr 0)] [] (e_M [(0, 125, 0, 0), (0, 126, 0, 0), (1, 125, 1, 0)] m, e_R [(0, 125, 0, 0), (0, 126, 0, 0), (1, 125, 0, 126), (1, 0, 12, 125)] r, e_H 127, 1684) Q) : z_T 0 65 [.inr (.inr 0)] [] (m, r, e_H 125, 1664) Q := by
  refine z_wp_T (cd := q_c0) (cs := [69]) rfl 20 65 _ _ _ _ ?_
  refine z_C_of_run 200 _ _ (e_k14 _ _) ?_
  refine z_wp_T (cd := q_c0) (cs := [70]) rfl 20 69 _ _ _ _ ?_
  exact k
set_option maxRecDepth 100000 in
theorem e_x12 (m : z_M) (r : Nat → Nat → Nat) {Q : q_V → q_S → Prop} (k : z_T 0 75 [.inr (.inr 0)] [] (e_M [(0, 127, 0, 0), (0, 128, 0, 0), (0, 129, 0, 0)] m, e_R [(0, 127, 0, 0), (0, 128, 0, 0), (1, 127, 1, 128), (0, 129, 0, 0), (1, 127, 2, 129), (1, 0, 13, 127)] r, e_H 130, 1693) Q) : z_T 0 70 [.inr (.inr 0)] [] (m, r, e_H 127, 1684) Q := by
  refine z_wp_T (cd := q_c0) (cs := [74]) rfl 20 70 _ _ _ _ ?_
  refine z_C_of_run 200 _ _ (e_k15 _ _) ?_
  refine z_wp_T (cd := q_c0) (cs := [75]) rfl 20 74 _ _ _ _ ?_
  exact k
set_option maxRecDepth 100000 in
theorem e_x13 (m : z_M) (r : Nat → Nat → Nat) {Q : q_V → q_S → Prop} (k : z_T 0 79 [.inr (.inr 0)] [] (e_M [(0, 130, 0, 0)] m, e_R [(0, 130, 0, 0), (1, 0, 14, 130)] r, e_H 131, 1707) Q) : z_T 0 75 [.inr (.inr 0)] [] (m, r, e_H 130, 1693) Q := by
  refine z_wp_T (cd := q_c0) (cs := [79]) rfl 20 75 _ _ _ _ ?_
  exact k
set_option maxRecDepth 100000 in
theorem e_y0 (m : z_M) (r : Nat → Nat → Nat) {Q : q_V → q_S → Prop} (k : z_T 285 61 [.inr (.inr 131)] [] (e_M [(0, 132, 0, 0), (1, 132, 0, 5), (1, 132, 1, 7), (1, 132, 2, 11), (1, 132, 3, 13), (1, 132, 4, 17), (1, 132, 5, 19), (1, 132, 6, 23), (1, 132, 7, 29), (1, 132, 8, 31), (1, 131, 1, 1), (0, 133, 0, 0), (0, 134, 0, 0), (0, 135, 0, 0), (0, 136, 0, 0)] m, e_R [(0, 132, 0, 0), (1, 131, 0, 132), (0, 133, 0, 0), (1, 131, 2, 133), (0, 134, 0, 0), (1, 131, 4, 134), (0, 135, 0, 0), (1, 131, 5, 135), (0, 136, 0, 0), (1, 131, 6, 136)] r, e_H 137, 1789) Q) : z_T 285 2 [.inr (.inr 131)] [] (m, r, e_H 132, 1756) Q := by
  refine z_wp_T (cd := q_c285) (cs := [61]) rfl 100 2 _ _ _ _ ?_
  apply And.intro
  · exact ⟨by decide, by decide⟩
  apply And.intro
  · exact ⟨by decide, by decide⟩
  apply And.intro
  · exact ⟨by decide, by decide⟩
  apply And.intro
  · exact ⟨by decide, by decide⟩
  apply And.intro
  · exact ⟨by decide, by decide⟩
  apply And.intro
  · exact ⟨by decide, by decide⟩
  apply And.intro
  · exact ⟨by decide, by decide⟩
  apply And.intro
  · exact ⟨by decide, by decide⟩
  apply And.intro
  · exact ⟨by decide, by decide⟩
  exact k
set_option maxRecDepth 100000 in
theorem e_y1 (m : z_M) (r : Nat → Nat → Nat) {Q : q_V → q_S → Prop} (k : z_T 285 85 [.inr (.inr 131)] [] (e_M [(0, 137, 0, 0), (0, 138, 0, 0), (0, 139, 0, 0), (0, 140, 0, 0), (0, 141, 0, 0), (0, 142, 0, 0)] m, e_R [(0, 137, 0, 0), (1, 131, 7, 137), (0, 138, 0, 0), (1, 131, 9, 138), (0, 139, 0, 0), (1, 131, 10, 139), (0, 140, 0, 0), (1, 131, 11, 140), (0, 141, 0, 0), (1, 131, 12, 141), (0, 142, 0, 0), (1, 131, 13, 142)] r, e_H 143, 1932) Q) : z_T 285 61 [.inr (.inr 131)] [] (m, r, e_H 137, 1789) Q := by
  refine z_wp_T (cd := q_c285) (cs := [85]) rfl 100 61 _ _ _ _ ?_
  exact k
set_option maxRecDepth 100000 in
theorem e_y2 (m : z_M) (r : Nat → Nat → Nat) {Q : q_V → q_S → Prop} (k : z_T 285 109 [.inr (.inr 131)] [] (e_M [(0, 143, 0, 0), (0, 144, 0, 0), (0, 145, 0, 0), (0, 146, 0, 0), (0, 147, 0, 0), (0, 148, 0, 0)] m, e_R [(0, 143, 0, 0), (1, 131, 14, 143), (0, 144, 0, 0), (1, 131, 17, 144), (0, 145, 0, 0), (1, 131, 19, 145), (0, 146, 0, 0), (1, 131, 20, 146), (0, 147, 0, 0), (1, 131, 21, 147), (0, 148, 0, 0), (1, 131, 22, 148)] r, e_H 149, 2526) Q) : z_T 285 85 [.inr (.inr 131)] [] (m, r, e_H 143, 1932) Q := by
  refine z_wp_T (cd := q_c285) (cs := [109]) rfl 100 85 _ _ _ _ ?_
  exact k
set_option maxRecDepth 100000 in
theorem e_y3 (m : z_M) (r : Nat → Nat → Nat) {Q : q_V → q_S → Prop} (k : z_T 285 133 [.inr (.inr 131)] [] (e_M [(0, 149, 0, 0), (0, 150, 0, 0), (0, 151, 0, 0), (0, 152, 0, 0), (0, 153, 0, 0), (0, 154, 0, 0)] m, e_R [(0, 149, 0, 0), (1, 131, 23, 149), (0, 150, 0, 0), (1, 131, 24, 150), (0, 151, 0, 0), (1, 131, 26, 151), (0, 152, 0, 0), (1, 131, 27, 152), (0, 153, 0, 0), (1, 131, 29, 153), (0, 154, 0, 0), (1, 131, 30, 154)] r, e_H 155, 2633) Q) : z_T 285 109 [.inr (.inr 131)] [] (m, r, e_H 149, 2526) Q := by
  refine z_wp_T (cd := q_c285) (cs := [133]) rfl 100 109 _ _ _ _ ?_
  exact k
set_option maxRecDepth 100000 in
theorem e_y4 (m : z_M) (r : Nat → Nat → Nat) {Q : q_V → q_S → Prop} (k : z_T 285 157 [.inr (.inr 131)] [] (e_M [(0, 155, 0, 0), (0, 156, 0, 0), (0, 157, 0, 0), (0, 158, 0, 0), (0, 159, 0, 0), (0, 160, 0, 0)] m, e_R [(0, 155, 0, 0), (1, 131, 31, 155), (0, 156, 0, 0), (1, 131, 32, 156), (0, 157, 0, 0), (1, 131, 36, 157), (0, 158, 0, 0), (1, 131, 38, 158), (0, 159, 0, 0), (1, 131, 39, 159), (0, 160, 0, 0), (1, 131, 40, 160)] r, e_H 161, 2747) Q) : z_T 285 133 [.inr (.inr 131)] [] (m, r, e_H 155, 2633) Q := by
  refine z_wp_T (cd := q_c285) (cs := [157]) rfl 100 133 _ _ _ _ ?_
  exact k
set_option maxRecDepth 100000 in
theorem e_y5 (m : z_M) (r : Nat → Nat → Nat) {Q : q_V → q_S → Prop} (k : z_T 285 177 [.inr (.inr 131)] [] (e_M [(0, 161, 0, 0), (1, 161, 0, -1), (1, 161, 1, -1), (1, 161, 2, -1), (1, 161, 3, -1)] m, e_R [(0, 161, 0, 0), (1, 131, 42, 161)] r, e_H 162, 2751) Q) : z_T 285 157 [.inr (.inr 131)] [] (m, r, e_H 161, 2747) Q := by
  refine z_wp_T (cd := q_c285) (cs := [177]) rfl 100 157 _ _ _ _ ?_
  apply And.intro
  · exact ⟨by decide, by decide⟩
  apply And.intro
  · exact ⟨by decide, by decide⟩
  apply And.intro
  · exact ⟨by decide, by decide⟩
  apply And.intro
  · exact ⟨by decide, by decide⟩
  exact k
set_option maxRecDepth 100000 in
theorem e_y6 (m : z_M) (r : Nat → Nat → Nat) {Q : q_V → q_S → Prop} (k : z_T 285 181 [.inr (.inr 131)] [] (e_M [(0, 162, 0, 0)] m, e_R [(0, 162, 0, 0), (1, 131, 43, 162)] r, e_H 163, 2831) Q) : z_T 285 177 [.inr (.inr 131)] [] (m, r, e_H 162, 2751) Q := by
  refine z_wp_T (cd := q_c285) (cs := [181]) rfl 100 177 _ _ _ _ ?_
  exact k
set_option maxRecDepth 100000 in
theorem e_y7 (m : z_M) (r : Nat → Nat → Nat) {Q : q_V → q_S → Prop} (k : z_T 285 185 [.inr (.inr 131)] [] (e_M [(0, 163, 0, 0)] m, e_R [(0, 163, 0, 0), (1, 131, 44, 163)] r, e_H 164, 2851) Q) : z_T 285 181 [.inr (.inr 131)] [] (m, r, e_H 163, 2831) Q := by
  refine z_wp_T (cd := q_c285) (cs := [185]) rfl 100 181 _ _ _ _ ?_
  exact k
set_option maxRecDepth 100000 in
theorem e_y8 (m : z_M) (r : Nat → Nat → Nat) {Q : q_V → q_S → Prop} (k : z_T 285 189 [.inr (.inr 131)] [] (e_M [(0, 164, 0, 0)] m, e_R [(0, 164, 0, 0), (1, 131, 45, 164)] r, e_H 165, 2981) Q) : z_T 285 185 [.inr (.inr 131)] [] (m, r, e_H 164, 2851) Q := by
  refine z_wp_T (cd := q_c285) (cs := [189]) rfl 100 185 _ _ _ _ ?_
  exact k
set_option maxRecDepth 100000 in
theorem e_y9 (m : z_M) (r : Nat → Nat → Nat) {Q : q_V → q_S → Prop} (k : z_T 285 192 [.inr (.inr 131)] [] (e_M [(1, 131, 41, 0)] m, e_R [] r, e_H 165, 2981) Q) : z_T 285 189 [.inr (.inr 131)] [] (m, r, e_H 165, 2981) Q := by
  refine z_wp_T (cd := q_c285) (cs := [192]) rfl 100 189 _ _ _ _ ?_
  exact k
