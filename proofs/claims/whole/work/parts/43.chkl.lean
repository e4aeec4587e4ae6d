/-! the law's instructions, checked; q_Chk_ok -/
def q_chkp (j pc : Nat) : Bool := match (q_P j).1[pc]? with
  | some i => q_ck j pc i
  | none => true
theorem q_chL0 : ∀ k, k < 30 → q_chkp 296 (0 + k) = true := by decide +kernel
theorem q_chL30 : ∀ k, k < 30 → q_chkp 296 (30 + k) = true := by decide +kernel
theorem q_chL60 : ∀ k, k < 30 → q_chkp 296 (60 + k) = true := by decide +kernel
theorem q_chL90 : ∀ k, k < 30 → q_chkp 296 (90 + k) = true := by decide +kernel
theorem q_chL120 : ∀ k, k < 30 → q_chkp 296 (120 + k) = true := by decide +kernel
theorem q_chL150 : ∀ k, k < 30 → q_chkp 296 (150 + k) = true := by decide +kernel
theorem q_chL180 : ∀ k, k < 30 → q_chkp 296 (180 + k) = true := by decide +kernel
theorem q_chL210 : ∀ k, k < 30 → q_chkp 296 (210 + k) = true := by decide +kernel
theorem q_chL240 : ∀ k, k < 30 → q_chkp 296 (240 + k) = true := by decide +kernel
theorem q_chL270 : ∀ k, k < 30 → q_chkp 296 (270 + k) = true := by decide +kernel
theorem q_chL300 : ∀ k, k < 30 → q_chkp 296 (300 + k) = true := by decide +kernel
theorem q_chL330 : ∀ k, k < 30 → q_chkp 296 (330 + k) = true := by decide +kernel
theorem q_chL360 : ∀ k, k < 30 → q_chkp 296 (360 + k) = true := by decide +kernel
theorem q_chL390 : ∀ k, k < 30 → q_chkp 296 (390 + k) = true := by decide +kernel
theorem q_chL420 : ∀ k, k < 30 → q_chkp 296 (420 + k) = true := by decide +kernel
theorem q_chL450 : ∀ k, k < 30 → q_chkp 296 (450 + k) = true := by decide +kernel
theorem q_chL480 : ∀ k, k < 30 → q_chkp 296 (480 + k) = true := by decide +kernel
theorem q_chL510 : ∀ k, k < 30 → q_chkp 296 (510 + k) = true := by decide +kernel
theorem q_chL540 : ∀ k, k < 30 → q_chkp 296 (540 + k) = true := by decide +kernel
theorem q_chL570 : ∀ k, k < 30 → q_chkp 296 (570 + k) = true := by decide +kernel
theorem q_chL600 : ∀ k, k < 30 → q_chkp 296 (600 + k) = true := by decide +kernel
theorem q_chL630 : ∀ k, k < 30 → q_chkp 296 (630 + k) = true := by decide +kernel
theorem q_chL660 : ∀ k, k < 30 → q_chkp 296 (660 + k) = true := by decide +kernel
theorem q_chL690 : ∀ k, k < 30 → q_chkp 296 (690 + k) = true := by decide +kernel
theorem q_chL720 : ∀ k, k < 30 → q_chkp 296 (720 + k) = true := by decide +kernel
theorem q_chL750 : ∀ k, k < 30 → q_chkp 296 (750 + k) = true := by decide +kernel
theorem q_chL780 : ∀ k, k < 30 → q_chkp 296 (780 + k) = true := by decide +kernel
theorem q_chL810 : ∀ k, k < 30 → q_chkp 296 (810 + k) = true := by decide +kernel
theorem q_chL840 : ∀ k, k < 30 → q_chkp 296 (840 + k) = true := by decide +kernel
theorem q_chL870 : ∀ k, k < 30 → q_chkp 296 (870 + k) = true := by decide +kernel
theorem q_chL900 : ∀ k, k < 30 → q_chkp 296 (900 + k) = true := by decide +kernel
theorem q_chL930 : ∀ k, k < 30 → q_chkp 296 (930 + k) = true := by decide +kernel
theorem q_chL960 : ∀ k, k < 30 → q_chkp 296 (960 + k) = true := by decide +kernel
theorem q_chL990 : ∀ k, k < 30 → q_chkp 296 (990 + k) = true := by decide +kernel
theorem q_chL1020 : ∀ k, k < 30 → q_chkp 296 (1020 + k) = true := by decide +kernel
theorem q_chL1050 : ∀ k, k < 30 → q_chkp 296 (1050 + k) = true := by decide +kernel
theorem q_chLall : ∀ k, k < 1080 → q_chkp 296 k = true := by
  intro k hk
  by_cases h0 : k < 30
  · have := q_chL0 (k - 0) (by omega)
    rwa [show 0 + (k - 0) = k by omega] at this
  by_cases h30 : k < 60
  · have := q_chL30 (k - 30) (by omega)
    rwa [show 30 + (k - 30) = k by omega] at this
  by_cases h60 : k < 90
  · have := q_chL60 (k - 60) (by omega)
    rwa [show 60 + (k - 60) = k by omega] at this
  by_cases h90 : k < 120
  · have := q_chL90 (k - 90) (by omega)
    rwa [show 90 + (k - 90) = k by omega] at this
  by_cases h120 : k < 150
  · have := q_chL120 (k - 120) (by omega)
    rwa [show 120 + (k - 120) = k by omega] at this
  by_cases h150 : k < 180
  · have := q_chL150 (k - 150) (by omega)
    rwa [show 150 + (k - 150) = k by omega] at this
  by_cases h180 : k < 210
  · have := q_chL180 (k - 180) (by omega)
    rwa [show 180 + (k - 180) = k by omega] at this
  by_cases h210 : k < 240
  · have := q_chL210 (k - 210) (by omega)
    rwa [show 210 + (k - 210) = k by omega] at this
  by_cases h240 : k < 270
  · have := q_chL240 (k - 240) (by omega)
    rwa [show 240 + (k - 240) = k by omega] at this
  by_cases h270 : k < 300
  · have := q_chL270 (k - 270) (by omega)
    rwa [show 270 + (k - 270) = k by omega] at this
  by_cases h300 : k < 330
  · have := q_chL300 (k - 300) (by omega)
    rwa [show 300 + (k - 300) = k by omega] at this
  by_cases h330 : k < 360
  · have := q_chL330 (k - 330) (by omega)
    rwa [show 330 + (k - 330) = k by omega] at this
  by_cases h360 : k < 390
  · have := q_chL360 (k - 360) (by omega)
    rwa [show 360 + (k - 360) = k by omega] at this
  by_cases h390 : k < 420
  · have := q_chL390 (k - 390) (by omega)
    rwa [show 390 + (k - 390) = k by omega] at this
  by_cases h420 : k < 450
  · have := q_chL420 (k - 420) (by omega)
    rwa [show 420 + (k - 420) = k by omega] at this
  by_cases h450 : k < 480
  · have := q_chL450 (k - 450) (by omega)
    rwa [show 450 + (k - 450) = k by omega] at this
  by_cases h480 : k < 510
  · have := q_chL480 (k - 480) (by omega)
    rwa [show 480 + (k - 480) = k by omega] at this
  by_cases h510 : k < 540
  · have := q_chL510 (k - 510) (by omega)
    rwa [show 510 + (k - 510) = k by omega] at this
  by_cases h540 : k < 570
  · have := q_chL540 (k - 540) (by omega)
    rwa [show 540 + (k - 540) = k by omega] at this
  by_cases h570 : k < 600
  · have := q_chL570 (k - 570) (by omega)
    rwa [show 570 + (k - 570) = k by omega] at this
  by_cases h600 : k < 630
  · have := q_chL600 (k - 600) (by omega)
    rwa [show 600 + (k - 600) = k by omega] at this
  by_cases h630 : k < 660
  · have := q_chL630 (k - 630) (by omega)
    rwa [show 630 + (k - 630) = k by omega] at this
  by_cases h660 : k < 690
  · have := q_chL660 (k - 660) (by omega)
    rwa [show 660 + (k - 660) = k by omega] at this
  by_cases h690 : k < 720
  · have := q_chL690 (k - 690) (by omega)
    rwa [show 690 + (k - 690) = k by omega] at this
  by_cases h720 : k < 750
  · have := q_chL720 (k - 720) (by omega)
    rwa [show 720 + (k - 720) = k by omega] at this
  by_cases h750 : k < 780
  · have := q_chL750 (k - 750) (by omega)
    rwa [show 750 + (k - 750) = k by omega] at this
  by_cases h780 : k < 810
  · have := q_chL780 (k - 780) (by omega)
    rwa [show 780 + (k - 780) = k by omega] at this
  by_cases h810 : k < 840
  · have := q_chL810 (k - 810) (by omega)
    rwa [show 810 + (k - 810) = k by omega] at this
  by_cases h840 : k < 870
  · have := q_chL840 (k - 840) (by omega)
    rwa [show 840 + (k - 840) = k by omega] at this
  by_cases h870 : k < 900
  · have := q_chL870 (k - 870) (by omega)
    rwa [show 870 + (k - 870) = k by omega] at this
  by_cases h900 : k < 930
  · have := q_chL900 (k - 900) (by omega)
    rwa [show 900 + (k - 900) = k by omega] at this
  by_cases h930 : k < 960
  · have := q_chL930 (k - 930) (by omega)
    rwa [show 930 + (k - 930) = k by omega] at this
  by_cases h960 : k < 990
  · have := q_chL960 (k - 960) (by omega)
    rwa [show 960 + (k - 960) = k by omega] at this
  by_cases h990 : k < 1020
  · have := q_chL990 (k - 990) (by omega)
    rwa [show 990 + (k - 990) = k by omega] at this
  by_cases h1020 : k < 1050
  · have := q_chL1020 (k - 1020) (by omega)
    rwa [show 1020 + (k - 1020) = k by omega] at this
  by_cases h1050 : k < 1080
  · have := q_chL1050 (k - 1050) (by omega)
    rwa [show 1050 + (k - 1050) = k by omega] at this
  omega
theorem q_len296 : (q_P 296).1.length = 1068 := by decide +kernel
theorem q_Ps_len : q_Ps.length = 297 := by decide +kernel
theorem q_Chk_ok : q_Chk := by
  intro j pc i h
  by_cases hj : j < 296
  · have h1 := q_chall j hj
    unfold q_chkm at h1
    have hl := (List.getElem?_eq_some_iff.mp h).1
    have h2 := List.all_eq_true.mp h1 pc (List.mem_range.mpr hl)
    rw [h] at h2
    exact h2
  · by_cases hj2 : j = 296
    · subst hj2
      have hl := (List.getElem?_eq_some_iff.mp h).1
      rw [q_len296] at hl
      have h2 := q_chLall pc (by omega)
      unfold q_chkp at h2
      rw [h] at h2
      exact h2
    · unfold q_P at h
      rw [List.getD_eq_getElem?_getD, List.getElem?_eq_none (l := q_Ps) (i := j) (by rw [q_Ps_len]; omega)] at h
      simp at h
