/-! PAIRS: write, paper -/
def w_term (s : w_st) (e : Nat) (v : Int) : w_st := if v = 0 then s else w_num (w_ch (w_num (if s.1 = 0 then s else w_ch s 43) v) 120) (e : Int)
def w_r (N : Nat → Int) : Nat → w_st
  | 0 => (0, fun _ => 0)
  | d + 1 => w_term (w_r N d) (12 - d) (N (12 - d))
def w_ok (s : w_st) : Prop := ∀ i, i < s.1 → 0 ≤ s.2 i ∧ s.2 i < 128
theorem w_ok_ch {s : w_st} {c : Int} (h : w_ok s) (c0 : 0 ≤ c) (c1 : c < 128) : w_ok (w_ch s c) := fun i hi => by
  have hi : i < s.1 + 1 := hi
  show 0 ≤ s_ap s.2 s.1 c i ∧ s_ap s.2 s.1 c i < 128
  unfold s_ap
  by_cases h1 : i = s.1
  · rw [if_pos h1]; exact ⟨c0, c1⟩
  · rw [if_neg h1]; exact h i (by omega)
theorem w_ok_num {s : w_st} {v : Int} (h : w_ok s) (v0 : 0 ≤ v) (v1 : v ≤ 99) : w_ok (w_num s v) := by
  unfold w_num
  split
  · exact w_ok_ch h (by omega) (by omega)
  · exact w_ok_ch (w_ok_ch h (by omega) (by omega)) (by omega) (by omega)
theorem w_ok_term {s : w_st} {e : Nat} {v : Int} (h : w_ok s) (he : e ≤ 12) (v0 : 0 ≤ v) (v1 : v ≤ 99) : w_ok (w_term s e v) := by
  unfold w_term
  split
  · exact h
  · refine w_ok_num (w_ok_ch (w_ok_num ?_ v0 v1) (by decide) (by decide)) (by omega) (by omega)
    split
    · exact h
    · exact w_ok_ch h (by decide) (by decide)
theorem w_term_len {s : w_st} {e : Nat} {v : Int} : (w_term s e v).1 ≤ (if s.1 = 0 then 5 else s.1 + 6) ∧ (v = 0 → w_term s e v = s) := by
  constructor
  · unfold w_term
    by_cases hv : v = 0
    · rw [if_pos hv]; split <;> omega
    · rw [if_neg hv]
      have h1 := w_num_len (s := w_ch (w_num (if s.1 = 0 then s else w_ch s 43) v) 120) (v := (e : Int))
      have h2 : (w_ch (w_num (if s.1 = 0 then s else w_ch s 43) v) 120).1 = (w_num (if s.1 = 0 then s else w_ch s 43) v).1 + 1 := rfl
      have h3 := w_num_len (s := if s.1 = 0 then s else w_ch s 43) (v := v)
      by_cases h0 : s.1 = 0
      · rw [if_pos h0] at h1 h2 h3 ⊢
        rw [if_pos h0]
        omega
      · rw [if_neg h0] at h1 h2 h3 ⊢
        rw [if_neg h0]
        have h4 : (w_ch s 43).1 = s.1 + 1 := rfl
        omega
  · intro hv
    unfold w_term
    rw [if_pos hv]
theorem w_r_ok {N : Nat → Int} (h : ∀ e, 0 ≤ N e ∧ N e ≤ 99) : ∀ d, w_ok (w_r N d)
  | 0 => fun i hi => absurd hi (Nat.not_lt_zero _)
  | d + 1 => w_ok_term (w_r_ok h d) (by omega) (h _).1 (h _).2
/-- how long it may be -/
theorem w_bd {p : Int} {S : Nat} {N : Nat → Int} (hN : x_N p S N) : ∀ d, d ≤ 13 → (w_r N d).1 = 0 ∨ (w_r N d).1 + 1 + 6 * (x_pre S (13 - d)).length ≤ 6 * x_many S
  | 0, _ => Or.inl rfl
  | d + 1, hd => by
    have ih := w_bd hN d (by omega)
    have e : 13 - d = (12 - d) + 1 := by omega
    have e2 : 13 - (d + 1) = 12 - d := by omega
    have hl := w_term_len (s := w_r N d) (e := 12 - d) (v := N (12 - d))
    show (w_term (w_r N d) (12 - d) (N (12 - d))).1 = 0 ∨ (w_term (w_r N d) (12 - d) (N (12 - d))).1 + 1 + 6 * (x_pre S (13 - (d + 1))).length ≤ _
    rw [e2]
    rw [e] at ih
    have hle := x_pre_len (S := S) (a := 12 - d) (b := 12 - d + 1) (by omega)
    by_cases hv : N (12 - d) = 0
    · rw [hl.2 hv]
      omega
    · have hb : S.testBit (12 - d) = true := by
        by_cases hb : S.testBit (12 - d) = true
        · exact hb
        · exact absurd (hN.2 _ (Or.inr hb)) hv
      have h1 : (x_pre S (12 - d + 1)).length = (x_pre S (12 - d)).length + 1 := by rw [x_pre_t hb, List.length_append]; rfl
      have h2 := x_pre_lt (S := S) (e := 12 - d) (by omega) hb
      have h3 := hl.1
      right
      by_cases h0 : (w_r N d).1 = 0
      · rw [if_pos h0] at h3
        omega
      · rw [if_neg h0] at h3
        omega
/-- what isn't of the sum tells nothing -/
theorem w_gap {N : Nat → Int} {a : Nat} : ∀ k, a + k ≤ 13 → (∀ e, a ≤ e → e < a + k → N e = 0) → w_r N (13 - a) = w_r N (13 - (a + k))
  | 0, _, _ => rfl
  | k + 1, h, h0 => by
    rw [w_gap k (by omega) (fun e h1 h2 => h0 e h1 (by omega)), show 13 - (a + k) = (13 - (a + (k + 1))) + 1 by omega]
    show w_term _ _ _ = _
    exact (w_term_len).2 (h0 _ (by omega) (by omega))
theorem s_append' {L : Nat} {m : z_M} {g : z_g} {Q : q_V → q_S → Prop} {s : w_st} {c : Int} (h : s_sb L m g s.1 s.2) (hn : s.1 ≤ 60) (c0 : 0 ≤ c) (c1 : c < 128) (kk : ∀ m' g', s_sb L m' g' (w_ch s c).1 (w_ch s c).2 → s_fr m m' → Q (.inr (.inr 125)) (z_st m' g')) : z_C 164 [.inr (.inr 125), .inl c] (z_st m g) Q := by
  refine s_append h hn (fun hv => ?_) c0 c1 kk
  have h1 := s_cap_rng h.1
  have h2 := h.2.2.2.1
  omega
theorem s_appInt' {L : Nat} {m : z_M} {g : z_g} {Q : q_V → q_S → Prop} {s : w_st} {v : Int} (hD : i_D m) (h : s_sb L m g s.1 s.2) (hn : s.1 ≤ 60) (v0 : 0 ≤ v) (v99 : v ≤ 99) (kk : ∀ m' g', s_sb L m' g' (w_num s v).1 (w_num s v).2 → s_fr m m' → Q (.inr (.inr 125)) (z_st m' g')) : z_C 169 [.inr (.inr 125), .inl v] (z_st m g) Q := by
  refine s_appInt hD h hn (fun hv => ?_) v0 v99 kk
  have h1 := s_cap_rng h.1
  have h2 := h.2.2.2.1
  omega
theorem s_P154 : q_P 154 = (q_c154, 3) := rfl
theorem s_P155 : q_P 155 = (q_c155, 2) := rfl
theorem s_P156 : q_P 156 = (q_c156, 2) := rfl
theorem s_setLength {L : Nat} {m : z_M} {g : z_g} {Q : q_V → q_S → Prop} {tx : Nat → Int} (hg : i_g L g) (h1 : m 125 1 = 0) (h3 : 0 ≤ m 125 3 ∧ m 125 3 ≤ 35) (hb : ∀ j : Nat, -128 ≤ m g.2.1 j ∧ m g.2.1 j < 128) (kk : ∀ m' g', s_sb L m' g' 0 tx → s_fr m m' → Q q_dead (z_st m' g')) : z_C 155 [.inr (.inr 125), .inl 0] (z_st m g) Q := by
  refine z_C_wp [] 20 s_P155 ?_
  refine z_C_wp [7, 10] 60 s_P156 ?_
  have t10 : ∀ (m1 : z_M) (g1 : z_g) (Q' : q_V → q_S → Prop), (0 ≤ m1 125 3 ∧ m1 125 3 ≤ 35) → (∀ m2, (m2 = q_upd m1 125 3 0 ∨ m2 = q_upd (q_upd m1 125 2 1) 125 3 0) → Q' q_dead (z_st m2 g1)) → z_T 156 10 [.inr (.inr 125), .inl 0] [] (z_st m1 g1) Q' := by
    intro m1 g1 Q' hc hq
    refine z_wp_T (cd := q_c156) (cs := [31, 38]) rfl 60 10 _ _ _ _ ?_
    have t31 : z_T 156 31 [.inr (.inr 125), .inl 0] [] (z_st m1 g1) Q' := by
      refine z_wp_T (cd := q_c156) (cs := []) rfl 60 31 _ _ _ _ ?_
      apply And.intro
      · intro _
        exact hq _ (Or.inl rfl)
      · intro _
        exact ⟨⟨fun _ => Or.inr rfl, fun h => absurd h (by decide)⟩, hq _ (Or.inr rfl)⟩
    apply And.intro
    · intro _
      exact t31
    · intro h
      have h : q_cond 3 (q_w (m1 125 3)) (q_w 0) = false := h
      rw [z_c (s_ok (by omega) (by omega)) (s_ok (by decide) (by decide))] at h
      have h : ¬ ¬ m1 125 3 < 0 := of_decide_eq_false h
      omega
  have t7 : ∀ (Q' : q_V → q_S → Prop), (∀ m' g', s_sb L m' g' 0 tx → s_fr m m' → Q' q_dead (z_st m' g')) → z_T 156 7 [.inr (.inr 125), .inl 0] [] (z_st m g) Q' := by
    intro Q' hq
    refine z_wp_T (cd := q_c156) (cs := [10]) rfl 60 7 _ _ _ _ ?_
    refine s_ensure (n := 0) hg h1 (by omega) (by omega) (fun _ => by omega) hb fun m1 g1 hg1 hc hcc f f2 hb1 => t10 m1 g1 _ (by rw [f 125 3 (by omega)]; exact h3) fun m2 hm2 => hq _ _ ?_ ?_
    · have hv := s_vp hg1
      rcases hm2 with hm2 | hm2
      · subst hm2
        exact ⟨hg1, by rw [z_un (by omega), f 125 1 (by omega)]; exact h1, z_ue rfl rfl, by omega, fun j => by rw [z_un (by omega)]; exact hb1 j, fun i hi => absurd hi (Nat.not_lt_zero _)⟩
      · subst hm2
        exact ⟨hg1, by rw [z_un (by omega), z_un (by omega), f 125 1 (by omega)]; exact h1, z_ue rfl rfl, by omega, fun j => by rw [z_un (by omega), z_un (by omega)]; exact hb1 j, fun i hi => absurd hi (Nat.not_lt_zero _)⟩
    · intro a j q1 q2 q3
      rcases hm2 with hm2 | hm2
      · subst hm2; rw [z_un (by omega)]; exact f a j q1
      · subst hm2; rw [z_un (by omega), z_un (by omega)]; exact f a j q1
  apply And.intro
  · intro _
    exact t7 _ kk
  · intro h
    exact absurd h (by decide)
def w_fin (N : Nat → Int) : w_st := if (w_r N 13).1 = 0 then w_ch (w_r N 13) 48 else w_r N 13
theorem t_TT_s {m m' : z_M} {p : Int} {S : Nat} {N : Nat → Int} (hT : t_TT m p S N) (f : s_fr m m') : t_TT m' p S N := t_T_sam (b := 125) (h := 2000) hT (by decide) (fun a j h => f a j (by omega) (by omega) (by omega))
theorem i_D_s {m m' : z_M} (hD : i_D m) (f : s_fr m m') : i_D m' := i_D_of (fun a j _ _ => f a j (by omega) (by omega) (by omega)) hD
/-- the class's rounds -/
theorem c_writes {L : Nat} {p s : Int} {S : Nat} {N : Nat → Int} {Q : q_V → q_S → Prop} {m : z_M} (hS : x_V S) (hN : x_N p S N) (hp : z_pr p) (kk : ∀ m' g', s_sb L m' g' (w_fin N).1 (w_fin N).2 → s_fr m m' → Q (.inl ((w_fin N).1 : Int)) (z_st m' g')) : ∀ (k : Nat) (ki : Int) (m1 : z_M) (g1 : z_g), ki = (k : Int) - 1 → k ≤ x_many S → t_TT m1 p S N → i_D m1 → s_fr m m1 → s_sb L m1 g1 (w_r N (13 - (if k < x_many S then x_at S k else 13))).1 (w_r N (13 - (if k < x_many S then x_at S k else 13))).2 → z_T 154 20 [.inr (.inr 0), .inl s, .inl ki] [] (z_st m1 g1) Q := by
  obtain ⟨s1, s2, s3⟩ := hS
  have hp5 := z_pr_le hp
  have hNr : ∀ e, 0 ≤ N e ∧ N e ≤ 99 := fun e => by have := hN.1 e; omega
  intro k
  induction k with
  | zero =>
    intro ki m1 g1 hki hk hT hD hf hsb
    subst hki
    rw [if_pos (by omega)] at hsb
    have hgap := w_gap (N := N) (a := 0) (x_at S 0) (by have := x_at_le (S := S) (k := 0) (by omega); omega) (fun e _ h2 => hN.2 e (Or.inr (fun hb => by
      obtain ⟨i, hi, ei⟩ := x_at_ex (S := S) (e := e) (by have := x_at_le (S := S) (k := 0) (by omega); omega) hb
      have := (x_at_le hi).1
      omega)))
    rw [Nat.zero_add, Nat.sub_zero] at hgap
    rw [← hgap] at hsb
    have hbd := w_bd hN 13 (Nat.le_refl _)
    have hlen : (w_r N 13).1 ≤ 35 := by omega
    refine z_wp_T (cd := q_c154) (cs := [54]) rfl 20 20 _ _ _ _ ?_
    have hcnt : ∀ (m2 : z_M) (g2 : z_g) (s' : w_st), s_sb L m2 g2 s'.1 s'.2 → s_fr m m2 → s' = w_fin N → z_T 154 63 [.inr (.inr 0), .inl s, .inl ((((0 : Nat)) : Int) - 1)] [] (z_st m2 g2) Q := by
      intro m2 g2 s' h1 h2 h3
      refine z_wp_T (cd := q_c154) (cs := []) rfl 20 63 _ _ _ _ ?_
      refine c_textLength ?_
      rw [h1.2.2.1, h3]
      rw [h3] at h1
      exact kk m2 g2 h1 h2
    have t54 : z_T 154 54 [.inr (.inr 0), .inl s, .inl ((((0 : Nat)) : Int) - 1)] [] (z_st m1 g1) Q := by
      refine z_wp_T (cd := q_c154) (cs := [57, 63]) rfl 20 54 _ _ _ _ ?_
      refine c_textLength ?_
      rw [hsb.2.2.1]
      refine z_wp_T (cd := q_c154) (cs := [63]) rfl 20 57 _ _ _ _ ?_
      apply And.intro
      · intro h
        have h : q_cond 1 (q_w ((w_r N 13).1 : Int)) 0 = true := h
        rw [z_c0 (s_ok (by omega) (by omega))] at h
        have h : ¬ ((w_r N 13).1 : Int) = 0 := of_decide_eq_true h
        refine hcnt m1 g1 (w_r N 13) hsb hf ?_
        unfold w_fin
        rw [if_neg (by omega)]
      · intro h
        have h : q_cond 1 (q_w ((w_r N 13).1 : Int)) 0 = false := h
        rw [z_c0 (s_ok (by omega) (by omega))] at h
        have h : ¬ ¬ ((w_r N 13).1 : Int) = 0 := of_decide_eq_false h
        refine s_append' (s := w_r N 13) hsb (by omega) (by decide) (by decide) fun m2 g2 h2 f2 => ?_
        refine hcnt m2 g2 (w_ch (w_r N 13) 48) h2 (s_fr_tr hf f2) ?_
        unfold w_fin
        rw [if_pos (by omega)]
    apply And.intro
    · intro _
      exact t54
    · intro h
      exact absurd h (by decide)
  | succ k ih =>
    intro ki m1 g1 hki hk hT hD hf hsb
    have hki' : ki = (k : Int) := by omega
    subst hki'
    have hkm : k < x_many S := by omega
    have hle := x_at_le hkm
    -- what stands above
    have hab : w_r N (13 - (if k + 1 < x_many S then x_at S (k + 1) else 13)) = w_r N (13 - (x_at S k + 1)) := by
      by_cases h1 : k + 1 < x_many S
      · rw [if_pos h1]
        have hlt := x_at_lt (S := S) (i := k) (j := k + 1) (by omega) h1
        have hle1 := x_at_le h1
        have := w_gap (N := N) (a := x_at S k + 1) (x_at S (k + 1) - (x_at S k + 1)) (by omega) (fun e h2 h3 => hN.2 e (Or.inr (fun hb => by
          obtain ⟨i, hi, ei⟩ := x_at_ex (S := S) (e := e) (by omega) hb
          by_cases hik : i ≤ k
          · by_cases hik2 : i = k
            · subst hik2; omega
            · have := x_at_lt (S := S) (i := i) (j := k) (by omega) hkm; omega
          · by_cases hik2 : i = k + 1
            · subst hik2; omega
            · have := x_at_lt (S := S) (i := k + 1) (j := i) (by omega) hi; omega)))
        rw [this, show x_at S k + 1 + (x_at S (k + 1) - (x_at S k + 1)) = x_at S (k + 1) by omega]
      · rw [if_neg h1]
        have := w_gap (N := N) (a := x_at S k + 1) (13 - (x_at S k + 1)) (by omega) (fun e h2 h3 => hN.2 e (Or.inr (fun hb => by
          obtain ⟨i, hi, ei⟩ := x_at_ex (S := S) (e := e) (by omega) hb
          by_cases hik2 : i = k
          · subst hik2; omega
          · have := x_at_lt (S := S) (i := i) (j := k) (by omega) hkm; omega)))
        rw [this, show x_at S k + 1 + (13 - (x_at S k + 1)) = 13 by omega]
    rw [hab] at hsb
    have hstep : w_r N (13 - x_at S k) = w_term (w_r N (13 - (x_at S k + 1))) (x_at S k) (N (x_at S k)) := by
      rw [show 13 - x_at S k = (13 - (x_at S k + 1)) + 1 by omega]
      show w_term _ (12 - (13 - (x_at S k + 1))) (N (12 - (13 - (x_at S k + 1)))) = _
      rw [show 12 - (13 - (x_at S k + 1)) = x_at S k by omega]
    have hbd := w_bd hN (13 - (x_at S k + 1)) (by omega)
    rw [show 13 - (13 - (x_at S k + 1)) = x_at S k + 1 by omega] at hbd
    have hrank : (x_pre S (x_at S k + 1)).length = k + 1 := by
      obtain ⟨-, q2, q3⟩ := x_at_uniq hkm rfl
      rw [x_pre_t q2, List.length_append, q3]
      rfl
    have ih' := fun m2 g2 => ih ((k : Int) - 1) m2 g2 rfl (by omega)
    rw [if_pos hkm, hstep] at ih'
    generalize w_r N (13 - (x_at S k + 1)) = sA at hsb hbd ih'
    have hlen : sA.1 ≤ 29 := by omega
    unfold w_term at ih'
    have ek : ((k : Int)).toNat = k := by omega
    have hNk := hNr (x_at S k)
    refine z_wp_T (cd := q_c154) (cs := [26, 52]) rfl 20 20 _ _ _ _ ?_
    apply And.intro
    · intro h
      have h : q_cond 2 (q_w (k : Int)) 0 = true := h
      rw [z_c0 (s_ok (by omega) (by omega))] at h
      have h : (k : Int) < 0 := of_decide_eq_true h
      omega
    intro _
    refine c_numberAt s3 hT (by omega) (by omega) ?_
    rw [ek]
    have t52 : ∀ m2 g2, z_T 154 20 [.inr (.inr 0), .inl s, .inl ((k : Int) - 1)] [] (z_st m2 g2) Q → z_T 154 52 [.inr (.inr 0), .inl s, .inl (k : Int)] [] (z_st m2 g2) Q := by
      intro m2 g2 h
      refine z_wp_T (cd := q_c154) (cs := [20]) rfl 20 52 _ _ _ _ ?_
      exact h
    refine z_wp_T (cd := q_c154) (cs := [30, 36, 52]) rfl 20 26 _ _ _ _ ?_
    apply And.intro
    · intro h
      have h : q_cond 0 (q_w (N (x_at S k))) 0 = true := h
      rw [z_c0 (s_ok (by omega) (by omega))] at h
      have h : N (x_at S k) = 0 := of_decide_eq_true h
      rw [if_pos h] at ih'
      exact t52 m1 g1 (ih' m1 g1 hT hD hf hsb)
    · intro h
      have h : q_cond 0 (q_w (N (x_at S k))) 0 = false := h
      rw [z_c0 (s_ok (by omega) (by omega))] at h
      have h : ¬ N (x_at S k) = 0 := of_decide_eq_false h
      rw [if_neg h] at ih'
      -- from 36 on
      have t36 : ∀ (m2 : z_M) (g2 : z_g) (s' : w_st), s' = (if sA.1 = 0 then sA else w_ch sA 43) → s_sb L m2 g2 s'.1 s'.2 → s_fr m1 m2 → z_T 154 36 [.inr (.inr 0), .inl s, .inl (k : Int)] [] (z_st m2 g2) Q := by
        intro m2 g2 s' es hs2 f2
        rw [← es] at ih'
        have hl2 : s'.1 ≤ 30 := by
          rw [es]
          split
          · omega
          · show sA.1 + 1 ≤ 30; omega
        have hT2 := t_TT_s hT f2
        refine z_wp_T (cd := q_c154) (cs := [42, 43, 45, 50, 51]) rfl 20 36 _ _ _ _ ?_
        refine c_numberAt s3 hT2 (by omega) (by omega) ?_
        rw [ek]
        refine z_wp_T (cd := q_c154) (cs := [43, 45, 50, 51]) rfl 20 42 _ _ _ _ ?_
        refine s_appInt' (i_D_s hD f2) hs2 (by omega) hNk.1 hNk.2 fun m3 g3 hs3 f3 => ?_
        have hl3 := w_num_len (s := s') (v := N (x_at S k))
        refine z_wp_T (cd := q_c154) (cs := [45, 50, 51]) rfl 20 43 _ _ _ _ ?_
        refine s_append' hs3 (by omega) (by decide) (by decide) fun m4 g4 hs4 f4 => ?_
        have hf4 := s_fr_tr f2 (s_fr_tr f3 f4)
        have hT4 := t_TT_s hT hf4
        refine z_wp_T (cd := q_c154) (cs := [50, 51]) rfl 20 45 _ _ _ _ ?_
        refine c_eat_b s3 hT4.2.1 (by omega) (by omega) ?_
        rw [ek]
        refine z_wp_T (cd := q_c154) (cs := [51]) rfl 20 50 _ _ _ _ ?_
        have hl4 : (w_ch (w_num s' (N (x_at S k))) 120).1 = (w_num s' (N (x_at S k))).1 + 1 := rfl
        refine s_appInt' (i_D_s hD hf4) hs4 (by omega) (by omega) (by omega) fun m5 g5 hs5 f5 => ?_
        refine z_wp_T (cd := q_c154) (cs := [52]) rfl 20 51 _ _ _ _ ?_
        have hf5 := s_fr_tr hf4 f5
        exact t52 m5 g5 (ih' m5 g5 (t_TT_s hT hf5) (i_D_s hD hf5) (s_fr_tr hf hf5) hs5)
      refine c_textLength ?_
      rw [hsb.2.2.1]
      refine z_wp_T (cd := q_c154) (cs := [36]) rfl 20 30 _ _ _ _ ?_
      apply And.intro
      · intro h0
        have h0 : q_cond 5 (q_w (sA.1 : Int)) 0 = true := h0
        rw [z_c0 (s_ok (by omega) (by omega))] at h0
        have h0 : ¬ 0 < (sA.1 : Int) := of_decide_eq_true h0
        exact t36 m1 g1 sA (by rw [if_pos (by omega)]) hsb (fun _ _ _ _ _ => rfl)
      · intro h0
        have h0 : q_cond 5 (q_w (sA.1 : Int)) 0 = false := h0
        rw [z_c0 (s_ok (by omega) (by omega))] at h0
        have h0 : ¬ ¬ 0 < (sA.1 : Int) := of_decide_eq_false h0
        refine s_append' hsb (by omega) (by decide) (by decide) fun m2 g2 hs2 f2 => ?_
        exact t36 m2 g2 (w_ch sA 43) (by rw [if_neg (by omega)]) hs2 f2
