/-! THE PAPER: texts -/
def s_ap (tx : Nat → Int) (n : Nat) (c : Int) : Nat → Int := fun i => if i = n then c else tx i
def s_sb (L : Nat) (m : z_M) (g : z_g) (n : Nat) (tx : Nat → Int) : Prop := i_g L g ∧ m 125 1 = 0 ∧ m 125 3 = (n : Int) ∧ (n : Int) ≤ s_cap g ∧ (∀ j : Nat, -128 ≤ m g.2.1 j ∧ m g.2.1 j < 128) ∧ ∀ i, i < n → m g.2.1 i = tx i
def s_fr (m m' : z_M) : Prop := ∀ a j, a < 165 ∨ 1000 ≤ a → ¬ a = 125 → ¬ a = 126 → m' a j = m a j
theorem s_fr_tr {m m1 m2 : z_M} (h1 : s_fr m m1) (h2 : s_fr m1 m2) : s_fr m m2 := fun a j q1 q2 q3 => (h2 a j q1 q2 q3).trans (h1 a j q1 q2 q3)
theorem s_vp {L : Nat} {g : z_g} (h : i_g L g) : g.2.1 = 126 ∨ g.2.1 = 165 ∨ g.2.1 = 166 := i_vp h
theorem s_cap_rng {L : Nat} {g : z_g} (h : i_g L g) : (g.2.1 = 126 ∧ s_cap g = 16) ∨ (g.2.1 = 165 ∧ s_cap g = 34) ∨ (g.2.1 = 166 ∧ s_cap g = 70) := by
  unfold s_cap
  rcases s_vp h with h | h | h
  · exact Or.inl ⟨h, by rw [if_pos h]⟩
  · exact Or.inr (Or.inl ⟨h, by rw [if_neg (by omega), if_pos h]⟩)
  · exact Or.inr (Or.inr ⟨h, by rw [if_neg (by omega), if_neg (by omega)]⟩)
/-- a state in which one letter more is written -/
theorem s_sb_put {L : Nat} {m m1 : z_M} {g g1 : z_g} {n : Nat} {tx : Nat → Int} {c : Int} (h : s_sb L m g n tx) (hg1 : i_g L g1) (hn : (n : Int) + 1 ≤ s_cap g1) (f : ∀ a j, a < 165 ∨ 1000 ≤ a → m1 a j = m a j) (f2 : ∀ j : Nat, (j : Int) < s_cap g → m1 g1.2.1 j = m g.2.1 j) (hb : ∀ j : Nat, -128 ≤ m1 g1.2.1 j ∧ m1 g1.2.1 j < 128) (c0 : 0 ≤ c) (c1 : c < 128) : s_sb L (q_upd (q_upd m1 125 3 ((n : Int) + 1)) g1.2.1 n c) g1 (n + 1) (s_ap tx n c) ∧ s_fr m (q_upd (q_upd m1 125 3 ((n : Int) + 1)) g1.2.1 n c) := by
  obtain ⟨h1, h2, h3, h4, h5, h6⟩ := h
  have hv := s_vp hg1
  refine ⟨⟨hg1, ?_, ?_, by omega, fun j => ?_, fun i hi => ?_⟩, fun a j q1 q2 q3 => ?_⟩
  · rw [z_un (by omega), z_un (by omega), f 125 1 (by omega)]; exact h2
  · rw [z_un (by omega), z_ue rfl rfl]; omega
  · by_cases hj : j = n
    · rw [z_ue rfl hj]; omega
    · rw [z_un (by omega), z_un (by omega)]; exact hb j
  · unfold s_ap
    by_cases hin : i = n
    · rw [z_ue rfl hin, if_pos hin]
    · rw [z_un (by omega), z_un (by omega), if_neg hin, f2 i (by omega)]; exact h6 i (by omega)
  · rw [z_un (by omega), z_un (by omega)]; exact f a j q1
theorem s_comm {m : z_M} {a b i j : Nat} {v w : Int} (h : ¬ a = b) : q_upd (q_upd m a i v) b j w = q_upd (q_upd m b j w) a i v := by
  funext x y
  unfold q_upd
  by_cases h1 : x = b ∧ y = j
  · rw [if_pos h1, if_neg (by omega), if_pos h1]
  · rw [if_neg h1]
    by_cases h2 : x = a ∧ y = i
    · rw [if_pos h2, if_pos h2]
    · rw [if_neg h2, if_neg h2, if_neg h1]
/-- two letters more, the count last -/
theorem s_sb_put2 {L : Nat} {m m1 : z_M} {g g1 : z_g} {n : Nat} {tx : Nat → Int} {c c' : Int} (h : s_sb L m g n tx) (hg1 : i_g L g1) (hn : (n : Int) + 2 ≤ s_cap g1) (f : ∀ a j, a < 165 ∨ 1000 ≤ a → m1 a j = m a j) (f2 : ∀ j : Nat, (j : Int) < s_cap g → m1 g1.2.1 j = m g.2.1 j) (hb : ∀ j : Nat, -128 ≤ m1 g1.2.1 j ∧ m1 g1.2.1 j < 128) (c0 : 0 ≤ c) (c1 : c < 128) (d0 : 0 ≤ c') (d1 : c' < 128) : s_sb L (q_upd (q_upd (q_upd m1 g1.2.1 (n + 1) c') g1.2.1 n c) 125 3 ((n : Int) + 2)) g1 (n + 1 + 1) (s_ap (s_ap tx n c) (n + 1) c') ∧ s_fr m (q_upd (q_upd (q_upd m1 g1.2.1 (n + 1) c') g1.2.1 n c) 125 3 ((n : Int) + 2)) := by
  obtain ⟨h1, h2, h3, h4, h5, h6⟩ := h
  have hv := s_vp hg1
  refine ⟨⟨hg1, ?_, ?_, by omega, fun j => ?_, fun i hi => ?_⟩, fun a j q1 q2 q3 => ?_⟩
  · rw [z_un (by omega), z_un (by omega), z_un (by omega), f 125 1 (by omega)]; exact h2
  · rw [z_ue rfl rfl]; omega
  · rw [z_un (by omega)]
    by_cases hj : j = n
    · rw [z_ue rfl hj]; omega
    · rw [z_un (by omega)]
      by_cases hj1 : j = n + 1
      · rw [z_ue rfl hj1]; omega
      · rw [z_un (by omega)]; exact hb j
  · unfold s_ap
    rw [z_un (by omega)]
    by_cases hin1 : i = n + 1
    · rw [z_un (by omega), z_ue rfl hin1, if_pos hin1]
    · rw [if_neg hin1]
      by_cases hin : i = n
      · rw [z_ue rfl hin, if_pos hin]
      · rw [z_un (by omega), z_un (by omega), if_neg hin, f2 i (by omega)]; exact h6 i (by omega)
  · rw [z_un (by omega), z_un (by omega), z_un (by omega)]; exact f a j q1
theorem s_append {L : Nat} {m : z_M} {g : z_g} {Q : q_V → q_S → Prop} {n : Nat} {tx : Nat → Int} {c : Int} (h : s_sb L m g n tx) (hn : n ≤ 60) (hn2 : g.2.1 = 126 → n ≤ 33) (c0 : 0 ≤ c) (c1 : c < 128) (kk : ∀ m' g', s_sb L m' g' (n + 1) (s_ap tx n c) → s_fr m m' → Q (.inr (.inr 125)) (z_st m' g')) : z_C 164 [.inr (.inr 125), .inl c] (z_st m g) Q := by
  refine z_C_wp [] 20 s_P164 ?_
  refine z_C_wp [6] 20 s_P165 ?_
  have hh := h
  obtain ⟨h1, h2, h3, h4, h5, h6⟩ := h
  show z_C 157 [.inr (.inr 125), .inl (m 125 3 + 1)] (z_st m g) _
  rw [h3]
  refine s_ensure h1 h2 (by omega) (by omega) (fun hv => by have := hn2 hv; omega) h5 fun m1 g1 hg1 hc hcc f f2 hb => ?_
  obtain ⟨k1, k2⟩ := s_sb_put (c := c) hh hg1 hc f f2 hb c0 c1
  have fin := kk _ g1 k1 k2
  have e1 : m1 125 1 = 0 := by rw [f 125 1 (by omega)]; exact h2
  have e3 : m1 125 3 = (n : Int) := by rw [f 125 3 (by omega)]; exact h3
  obtain ⟨q1, q2, q3, q4⟩ := g1
  obtain ⟨w1, w | w | w⟩ := hg1
  · obtain ⟨w2, w3, w4⟩ := w
    dsimp only at w1 w2 w3
    subst w2 w3
    exact s_put_a e1 e3 hc c0 c1 fin
  · obtain ⟨w2, w3, w4⟩ := w
    dsimp only at w1 w2 w3
    subst w2 w3
    exact s_put_b e1 e3 hc c0 c1 fin
  · obtain ⟨w2, w3, w4⟩ := w
    dsimp only at w1 w2 w3
    subst w2 w3
    exact s_put_c e1 e3 hc c0 c1 fin
/-- what is written, as a text that grows -/
abbrev w_st : Type := Nat × (Nat → Int)
def w_ch (s : w_st) (c : Int) : w_st := (s.1 + 1, s_ap s.2 s.1 c)
def w_num (s : w_st) (v : Int) : w_st := if v ≤ 9 then w_ch s (48 + v) else w_ch (w_ch s (48 + v / 10)) (48 + v % 10)
theorem w_num_len {s : w_st} {v : Int} : s.1 + 1 ≤ (w_num s v).1 ∧ (w_num s v).1 ≤ s.1 + 2 := by
  unfold w_num
  split
  · exact ⟨Nat.le_refl _, Nat.le_succ _⟩
  · exact ⟨Nat.le_succ _, Nat.le_refl _⟩
set_option maxRecDepth 10000 in
theorem s_t13_a {L sl : Nat} {m : z_M} {Q : q_V → q_S → Prop} {n : Nat} {v a : Int} (h : z_C 172 [.inl v, .inl a, .inr (.inr 126)] (z_st m (L, 126, [], sl)) (fun r S' => z_T 170 19 [.inr (.inr 125), .inl v, .inl (n : Int), .inl a] (q_push r []) S' Q)) : z_T 170 13 [.inr (.inr 125), .inl v, .inl (n : Int), .inl a] [.inl 1] (z_st m (L, 126, [], sl)) Q := by
  refine z_wp_T (cd := q_c170) (cs := [19]) rfl 20 13 _ _ _ _ ?_
  apply And.intro
  · intro hh
    exact absurd hh (by decide)
  · intro _
    exact h
set_option maxRecDepth 10000 in
theorem s_t13_b {L sl : Nat} {m : z_M} {Q : q_V → q_S → Prop} {n : Nat} {v a : Int} (h : z_C 172 [.inl v, .inl a, .inr (.inr 165)] (z_st m (L, 165, [(2,34)], sl)) (fun r S' => z_T 170 19 [.inr (.inr 125), .inl v, .inl (n : Int), .inl a] (q_push r []) S' Q)) : z_T 170 13 [.inr (.inr 125), .inl v, .inl (n : Int), .inl a] [.inl 1] (z_st m (L, 165, [(2,34)], sl)) Q := by
  refine z_wp_T (cd := q_c170) (cs := [19]) rfl 20 13 _ _ _ _ ?_
  apply And.intro
  · intro hh
    exact absurd hh (by decide)
  · intro _
    exact h
set_option maxRecDepth 10000 in
theorem s_t13_c {L sl : Nat} {m : z_M} {Q : q_V → q_S → Prop} {n : Nat} {v a : Int} (h : z_C 172 [.inl v, .inl a, .inr (.inr 166)] (z_st m (L, 166, [(2,34),(2,70)], sl)) (fun r S' => z_T 170 19 [.inr (.inr 125), .inl v, .inl (n : Int), .inl a] (q_push r []) S' Q)) : z_T 170 13 [.inr (.inr 125), .inl v, .inl (n : Int), .inl a] [.inl 1] (z_st m (L, 166, [(2,34),(2,70)], sl)) Q := by
  refine z_wp_T (cd := q_c170) (cs := [19]) rfl 20 13 _ _ _ _ ?_
  apply And.intro
  · intro hh
    exact absurd hh (by decide)
  · intro _
    exact h
set_option maxRecDepth 10000 in
theorem s_appInt {L : Nat} {m : z_M} {g : z_g} {Q : q_V → q_S → Prop} {n : Nat} {tx : Nat → Int} {v : Int} (hD : i_D m) (h : s_sb L m g n tx) (hn : n ≤ 60) (hn2 : g.2.1 = 126 → n ≤ 32) (v0 : 0 ≤ v) (v99 : v ≤ 99) (kk : ∀ m' g', s_sb L m' g' (w_num (n, tx) v).1 (w_num (n, tx) v).2 → s_fr m m' → Q (.inr (.inr 125)) (z_st m' g')) : z_C 169 [.inr (.inr 125), .inl v] (z_st m g) Q := by
  refine z_C_wp [] 20 s_P169 ?_
  refine z_C_wp [6, 11, 13, 19] 20 s_P170 ?_
  have hh := h
  obtain ⟨h1, h2, h3, h4, h5, h6⟩ := h
  have fin : ∀ (w : Int) (m2 : z_M) (g2 : z_g) (Q' : q_V → q_S → Prop) (a : Int), Q' (.inr (.inr 125)) (z_st (q_upd m2 125 3 a) g2) → z_T 170 19 [.inr (.inr 125), .inl v, .inl (n : Int), .inl a] [.inl w] (z_st m2 g2) Q' := by
    intro w m2 g2 Q' a hq
    refine z_wp_T (cd := q_c170) (cs := []) rfl 20 19 _ _ _ _ ?_
    exact hq
  -- both ways behind the size
  have go : ∀ (k : Int) (Q' : q_V → q_S → Prop), (k = 1 ∨ k = 2) → (∀ m1 g1, i_g L g1 → (n : Int) + k ≤ s_cap g1 → s_cap g ≤ s_cap g1 → (∀ a j, a < 165 ∨ 1000 ≤ a → m1 a j = m a j) → (∀ j : Nat, (j : Int) < s_cap g → m1 g1.2.1 j = m g.2.1 j) → (∀ j : Nat, -128 ≤ m1 g1.2.1 j ∧ m1 g1.2.1 j < 128) → z_C 172 [.inl v, .inl ((n : Int) + k), .inr (.inr g1.2.1)] (z_st m1 g1) (fun r S' => z_T 170 19 [.inr (.inr 125), .inl v, .inl (n : Int), .inl ((n : Int) + k)] (q_push r []) S' Q')) → z_T 170 6 [.inr (.inr 125), .inl v, .inl (n : Int), q_dead] [.inl k, .inl (n : Int)] (z_st m g) Q' := by
    intro k Q' hk hq
    refine z_wp_T (cd := q_c170) (cs := [11, 13, 19]) rfl 20 6 _ _ _ _ ?_
    refine s_ensure (n := (n : Int) + k) h1 h2 (by omega) (by omega) (fun hv => by have := hn2 hv; omega) h5 fun m1 g1 hg1 hc hcc f f2 hb => ?_
    refine z_wp_T (cd := q_c170) (cs := [13, 19]) rfl 20 11 _ _ _ _ ?_
    refine s_isLatin1 (by rw [f 125 1 (by omega)]; exact h2) ?_
    have hz := hq m1 g1 hg1 hc hcc f f2 hb
    obtain ⟨q1, q2, q3, q4⟩ := g1
    obtain ⟨w1, w | w | w⟩ := hg1
    · obtain ⟨w2, w3, w4⟩ := w
      dsimp only at w1 w2 w3
      subst w2 w3
      exact s_t13_a hz
    · obtain ⟨w2, w3, w4⟩ := w
      dsimp only at w1 w2 w3
      subst w2 w3
      exact s_t13_b hz
    · obtain ⟨w2, w3, w4⟩ := w
      dsimp only at w1 w2 w3
      subst w2 w3
      exact s_t13_c hz
  show z_C 171 [.inl v] (z_st m g) (fun r S' => z_T 170 6 [.inr (.inr 125), .inl v, .inl (m 125 3), q_dead] (q_push r [.inl (m 125 3)]) S' _)
  rw [h3]
  unfold w_num at kk
  refine s_size v0 v99 (fun h9 => ?_) (fun h10 => ?_)
  · rw [if_pos h9] at kk
    refine go 1 _ (Or.inl rfl) fun m1 g1 hg1 hc hcc f f2 hb => ?_
    obtain ⟨k1, k2⟩ := s_sb_put (c := 48 + v) hh hg1 hc f f2 hb (by omega) (by omega)
    have done := kk _ g1 k1 k2
    have hD1 : i_D m1 := i_D_of (fun a j _ _ => f a j (by omega)) hD
    have hv := s_vp hg1
    have ecomm : q_upd (q_upd m1 125 3 ((n : Int) + 1)) g1.2.1 n (48 + v) = q_upd (q_upd m1 g1.2.1 n (48 + v)) 125 3 ((n : Int) + 1) := s_comm (by omega)
    rw [ecomm] at done
    obtain ⟨q1, q2, q3, q4⟩ := g1
    obtain ⟨w1, w | w | w⟩ := hg1
    · obtain ⟨w2, w3, w4⟩ := w
      dsimp only at w1 w2 w3
      subst w2 w3
      exact s_get1_a hD1 hc v0 h9 fun w => fin w _ _ _ _ done
    · obtain ⟨w2, w3, w4⟩ := w
      dsimp only at w1 w2 w3
      subst w2 w3
      exact s_get1_b hD1 hc v0 h9 fun w => fin w _ _ _ _ done
    · obtain ⟨w2, w3, w4⟩ := w
      dsimp only at w1 w2 w3
      subst w2 w3
      exact s_get1_c hD1 hc v0 h9 fun w => fin w _ _ _ _ done
  · rw [if_neg (by omega)] at kk
    refine go 2 _ (Or.inr rfl) fun m1 g1 hg1 hc hcc f f2 hb => ?_
    obtain ⟨k1, k2⟩ := s_sb_put2 (c := 48 + v / 10) (c' := 48 + v % 10) hh hg1 hc f f2 hb (by omega) (by omega) (by omega) (by omega)
    have done := kk _ g1 k1 k2
    have hD1 : i_D m1 := i_D_of (fun a j _ _ => f a j (by omega)) hD
    obtain ⟨q1, q2, q3, q4⟩ := g1
    obtain ⟨w1, w | w | w⟩ := hg1
    · obtain ⟨w2, w3, w4⟩ := w
      dsimp only at w1 w2 w3
      subst w2 w3
      exact s_get2_a hD1 hc h10 v99 fun w => fin w _ _ _ _ done
    · obtain ⟨w2, w3, w4⟩ := w
      dsimp only at w1 w2 w3
      subst w2 w3
      exact s_get2_b hD1 hc h10 v99 fun w => fin w _ _ _ _ done
    · obtain ⟨w2, w3, w4⟩ := w
      dsimp only at w1 w2 w3
      subst w2 w3
      exact s_get2_c hD1 hc h10 v99 fun w => fin w _ _ _ _ done
