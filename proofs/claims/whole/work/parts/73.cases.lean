/-! EACH CASE of the law's loop, out of a lemma on its pair of methods (written by wip/whole/cases.py) -/
def z_pI (I : z_M → z_g → Prop) (jc jm : Nat) (as : List q_V) (m : z_M) (g : z_g) : Prop := z_C jc (.inr (.inr 0) :: as) (z_st m g) (fun r S' => ∃ v m1 g1, r = .inl v ∧ S' = z_st m1 g1 ∧ (∀ j, m1 1001 j = m 1001 j) ∧ g1.1 = g.1 ∧ z_C jm (.inr (.inr 131) :: as) (z_st m1 g1) (fun r' S'' => ∃ v' m2 g2, r' = .inl v' ∧ S'' = z_st m2 g2 ∧ q_w v = q_w v' ∧ I m2 g2))
def z_pL (I : z_M → z_g → Prop) (jc jm : Nat) (as : List q_V) (m : z_M) (g : z_g) : Prop := z_C jc (.inr (.inr 0) :: as) (z_st m g) (fun r S' => ∃ v m1 g1, r = .inr (.inl v) ∧ S' = z_st m1 g1 ∧ (∀ j, m1 1001 j = m 1001 j) ∧ g1.1 = g.1 ∧ z_C jm (.inr (.inr 131) :: as) (z_st m1 g1) (fun r' S'' => ∃ v' m2 g2, r' = .inr (.inl v') ∧ S'' = z_st m2 g2 ∧ q_wl v = q_wl v' ∧ I m2 g2))
theorem z_C.imp {j : Nat} {as : List q_V} {S : q_S} {Q Q' : q_V → q_S → Prop} (h : z_C j as S Q) (hq : ∀ r S', Q r S' → Q' r S') : z_C j as S Q' := z_T.imp h hq
theorem z_nn {a b : Int} (h : a = b) (e : q_cond 0 a b = false) : False := by subst h; exact of_decide_eq_false e rfl
theorem z_lcn {a b : Int} (h : a = b) (e : q_cond 0 (q_w (if a < b then -1 else if a = b then 0 else 1)) 0 = false) : False := by
  subst h
  rw [if_neg (by omega), if_pos rfl] at e
  rw [q_w_id (by decide) (by decide)] at e
  exact absurd e (by decide)
theorem z_nop : True := trivial
set_option maxRecDepth 100000 in
theorem l_case0 {I : z_M → z_g → Prop} {L : Nat} (hI : ∀ m g, I m g → g.1 = L) (hs : ∀ m g, I m g → ∀ j, z_ok (m 1001 j)) (hp : ∀ (m : z_M) (g : z_g) (a0 : Int), I m g → z_ok a0 → z_pI I 15 187 [.inl a0] m g) : z_case I L 0 := by
  intro m g i h hi back
  have e := hI m g h
  refine z_wp_T (cd := q_c296) (cs := [1064]) rfl 60 22 _ _ _ _ ?_
  apply And.intro
  · exact ⟨by show (0 : Int) ≤ (i : Int) + 1; omega, by show (i : Int) + 1 < (g.1 : Int); omega⟩
  refine z_C.imp (hp m g (m 1001 ((i : Int) + 1).toNat) h (hs m g h _)) ?_
  rintro _ _ ⟨v, m1, g1, rfl, rfl, e1, e2, h2⟩
  apply And.intro
  · exact ⟨by show (0 : Int) ≤ (i : Int) + 1; omega, by show (i : Int) + 1 < (g1.1 : Int); omega⟩
  have h2 := h2
  rw [← e1 ((i : Int) + 1).toNat] at h2
  refine z_C.imp h2 ?_
  rintro _ _ ⟨v', m2, g2, rfl, rfl, e3, h3⟩
  apply And.intro
  · intro _
    exact back m2 g2 h3
  · intro hb
    exact (z_nn e3 hb).elim
set_option maxRecDepth 100000 in
theorem l_case1 {I : z_M → z_g → Prop} {L : Nat} (hI : ∀ m g, I m g → g.1 = L) (hs : ∀ m g, I m g → ∀ j, z_ok (m 1001 j)) (hp : ∀ (m : z_M) (g : z_g) (a0 : Int), I m g → z_ok a0 → z_pI I 18 190 [.inl a0] m g) : z_case I L 1 := by
  intro m g i h hi back
  have e := hI m g h
  refine z_wp_T (cd := q_c296) (cs := [1064]) rfl 60 39 _ _ _ _ ?_
  apply And.intro
  · exact ⟨by show (0 : Int) ≤ (i : Int) + 1; omega, by show (i : Int) + 1 < (g.1 : Int); omega⟩
  refine z_C.imp (hp m g (m 1001 ((i : Int) + 1).toNat) h (hs m g h _)) ?_
  rintro _ _ ⟨v, m1, g1, rfl, rfl, e1, e2, h2⟩
  apply And.intro
  · exact ⟨by show (0 : Int) ≤ (i : Int) + 1; omega, by show (i : Int) + 1 < (g1.1 : Int); omega⟩
  have h2 := h2
  rw [← e1 ((i : Int) + 1).toNat] at h2
  refine z_C.imp h2 ?_
  rintro _ _ ⟨v', m2, g2, rfl, rfl, e3, h3⟩
  apply And.intro
  · intro _
    exact back m2 g2 h3
  · intro hb
    exact (z_nn e3 hb).elim
set_option maxRecDepth 100000 in
theorem l_case2 {I : z_M → z_g → Prop} {L : Nat} (hI : ∀ m g, I m g → g.1 = L) (hs : ∀ m g, I m g → ∀ j, z_ok (m 1001 j)) (hp : ∀ (m : z_M) (g : z_g) (a0 a1 : Int), I m g → z_ok a0 → z_ok a1 → z_pI I 23 194 [.inl a0, .inl a1] m g) : z_case I L 2 := by
  intro m g i h hi back
  have e := hI m g h
  refine z_wp_T (cd := q_c296) (cs := [1064]) rfl 60 56 _ _ _ _ ?_
  apply And.intro
  · exact ⟨by show (0 : Int) ≤ (i : Int) + 1; omega, by show (i : Int) + 1 < (g.1 : Int); omega⟩
  apply And.intro
  · exact ⟨by show (0 : Int) ≤ (i : Int) + 2; omega, by show (i : Int) + 2 < (g.1 : Int); omega⟩
  refine z_C.imp (hp m g (m 1001 ((i : Int) + 1).toNat) (m 1001 ((i : Int) + 2).toNat) h (hs m g h _) (hs m g h _)) ?_
  rintro _ _ ⟨v, m1, g1, rfl, rfl, e1, e2, h2⟩
  apply And.intro
  · exact ⟨by show (0 : Int) ≤ (i : Int) + 1; omega, by show (i : Int) + 1 < (g1.1 : Int); omega⟩
  apply And.intro
  · exact ⟨by show (0 : Int) ≤ (i : Int) + 2; omega, by show (i : Int) + 2 < (g1.1 : Int); omega⟩
  have h2 := h2
  rw [← e1 ((i : Int) + 1).toNat] at h2
  rw [← e1 ((i : Int) + 2).toNat] at h2
  refine z_C.imp h2 ?_
  rintro _ _ ⟨v', m2, g2, rfl, rfl, e3, h3⟩
  apply And.intro
  · intro _
    exact back m2 g2 h3
  · intro hb
    exact (z_nn e3 hb).elim
set_option maxRecDepth 100000 in
theorem l_case3 {I : z_M → z_g → Prop} {L : Nat} (hI : ∀ m g, I m g → g.1 = L) (hs : ∀ m g, I m g → ∀ j, z_ok (m 1001 j)) (hp : ∀ (m : z_M) (g : z_g) (a0 a1 a2 : Int), I m g → z_ok a0 → z_ok a1 → z_ok a2 → z_pI I 36 203 [.inl a0, .inl a1, .inl a2] m g) : z_case I L 3 := by
  intro m g i h hi back
  have e := hI m g h
  refine z_wp_T (cd := q_c296) (cs := [1064]) rfl 60 83 _ _ _ _ ?_
  apply And.intro
  · exact ⟨by show (0 : Int) ≤ (i : Int) + 1; omega, by show (i : Int) + 1 < (g.1 : Int); omega⟩
  apply And.intro
  · exact ⟨by show (0 : Int) ≤ (i : Int) + 2; omega, by show (i : Int) + 2 < (g.1 : Int); omega⟩
  apply And.intro
  · exact ⟨by show (0 : Int) ≤ (i : Int) + 3; omega, by show (i : Int) + 3 < (g.1 : Int); omega⟩
  refine z_C.imp (hp m g (m 1001 ((i : Int) + 1).toNat) (m 1001 ((i : Int) + 2).toNat) (m 1001 ((i : Int) + 3).toNat) h (hs m g h _) (hs m g h _) (hs m g h _)) ?_
  rintro _ _ ⟨v, m1, g1, rfl, rfl, e1, e2, h2⟩
  apply And.intro
  · exact ⟨by show (0 : Int) ≤ (i : Int) + 1; omega, by show (i : Int) + 1 < (g1.1 : Int); omega⟩
  apply And.intro
  · exact ⟨by show (0 : Int) ≤ (i : Int) + 2; omega, by show (i : Int) + 2 < (g1.1 : Int); omega⟩
  apply And.intro
  · exact ⟨by show (0 : Int) ≤ (i : Int) + 3; omega, by show (i : Int) + 3 < (g1.1 : Int); omega⟩
  have h2 := h2
  rw [← e1 ((i : Int) + 1).toNat] at h2
  rw [← e1 ((i : Int) + 2).toNat] at h2
  rw [← e1 ((i : Int) + 3).toNat] at h2
  refine z_C.imp h2 ?_
  rintro _ _ ⟨v', m2, g2, rfl, rfl, e3, h3⟩
  apply And.intro
  · intro _
    exact back m2 g2 h3
  · intro hb
    exact (z_nn e3 hb).elim
set_option maxRecDepth 100000 in
theorem l_case4 {I : z_M → z_g → Prop} {L : Nat} (hI : ∀ m g, I m g → g.1 = L) (hs : ∀ m g, I m g → ∀ j, z_ok (m 1001 j)) (hp : ∀ (m : z_M) (g : z_g) (a0 a1 a2 : Int), I m g → z_ok a0 → z_ok a1 → z_ok a2 → z_pI I 39 206 [.inl a0, .inl a1, .inl a2] m g) : z_case I L 4 := by
  intro m g i h hi back
  have e := hI m g h
  refine z_wp_T (cd := q_c296) (cs := [1064]) rfl 60 120 _ _ _ _ ?_
  apply And.intro
  · exact ⟨by show (0 : Int) ≤ (i : Int) + 1; omega, by show (i : Int) + 1 < (g.1 : Int); omega⟩
  apply And.intro
  · exact ⟨by show (0 : Int) ≤ (i : Int) + 2; omega, by show (i : Int) + 2 < (g.1 : Int); omega⟩
  apply And.intro
  · exact ⟨by show (0 : Int) ≤ (i : Int) + 3; omega, by show (i : Int) + 3 < (g.1 : Int); omega⟩
  refine z_C.imp (hp m g (m 1001 ((i : Int) + 1).toNat) (m 1001 ((i : Int) + 2).toNat) (m 1001 ((i : Int) + 3).toNat) h (hs m g h _) (hs m g h _) (hs m g h _)) ?_
  rintro _ _ ⟨v, m1, g1, rfl, rfl, e1, e2, h2⟩
  apply And.intro
  · exact ⟨by show (0 : Int) ≤ (i : Int) + 1; omega, by show (i : Int) + 1 < (g1.1 : Int); omega⟩
  apply And.intro
  · exact ⟨by show (0 : Int) ≤ (i : Int) + 2; omega, by show (i : Int) + 2 < (g1.1 : Int); omega⟩
  apply And.intro
  · exact ⟨by show (0 : Int) ≤ (i : Int) + 3; omega, by show (i : Int) + 3 < (g1.1 : Int); omega⟩
  have h2 := h2
  rw [← e1 ((i : Int) + 1).toNat] at h2
  rw [← e1 ((i : Int) + 2).toNat] at h2
  rw [← e1 ((i : Int) + 3).toNat] at h2
  refine z_C.imp h2 ?_
  rintro _ _ ⟨v', m2, g2, rfl, rfl, e3, h3⟩
  apply And.intro
  · intro _
    exact back m2 g2 h3
  · intro hb
    exact (z_nn e3 hb).elim
set_option maxRecDepth 100000 in
theorem l_case5 {I : z_M → z_g → Prop} {L : Nat} (hI : ∀ m g, I m g → g.1 = L) (hs : ∀ m g, I m g → ∀ j, z_ok (m 1001 j)) (hp : ∀ (m : z_M) (g : z_g) (a0 a1 a2 : Int), I m g → z_ok a0 → z_ok a1 → z_ok a2 → z_pI I 43 208 [.inl a0, .inl a1, .inl a2] m g) : z_case I L 5 := by
  intro m g i h hi back
  have e := hI m g h
  refine z_wp_T (cd := q_c296) (cs := [1064]) rfl 60 157 _ _ _ _ ?_
  apply And.intro
  · exact ⟨by show (0 : Int) ≤ (i : Int) + 1; omega, by show (i : Int) + 1 < (g.1 : Int); omega⟩
  apply And.intro
  · exact ⟨by show (0 : Int) ≤ (i : Int) + 2; omega, by show (i : Int) + 2 < (g.1 : Int); omega⟩
  apply And.intro
  · exact ⟨by show (0 : Int) ≤ (i : Int) + 3; omega, by show (i : Int) + 3 < (g.1 : Int); omega⟩
  refine z_C.imp (hp m g (m 1001 ((i : Int) + 1).toNat) (m 1001 ((i : Int) + 2).toNat) (m 1001 ((i : Int) + 3).toNat) h (hs m g h _) (hs m g h _) (hs m g h _)) ?_
  rintro _ _ ⟨v, m1, g1, rfl, rfl, e1, e2, h2⟩
  apply And.intro
  · exact ⟨by show (0 : Int) ≤ (i : Int) + 1; omega, by show (i : Int) + 1 < (g1.1 : Int); omega⟩
  apply And.intro
  · exact ⟨by show (0 : Int) ≤ (i : Int) + 2; omega, by show (i : Int) + 2 < (g1.1 : Int); omega⟩
  apply And.intro
  · exact ⟨by show (0 : Int) ≤ (i : Int) + 3; omega, by show (i : Int) + 3 < (g1.1 : Int); omega⟩
  have h2 := h2
  rw [← e1 ((i : Int) + 1).toNat] at h2
  rw [← e1 ((i : Int) + 2).toNat] at h2
  rw [← e1 ((i : Int) + 3).toNat] at h2
  refine z_C.imp h2 ?_
  rintro _ _ ⟨v', m2, g2, rfl, rfl, e3, h3⟩
  apply And.intro
  · intro _
    exact back m2 g2 h3
  · intro hb
    exact (z_nn e3 hb).elim
set_option maxRecDepth 100000 in
theorem l_case6 {I : z_M → z_g → Prop} {L : Nat} (hI : ∀ m g, I m g → g.1 = L) (hs : ∀ m g, I m g → ∀ j, z_ok (m 1001 j)) (hp : ∀ (m : z_M) (g : z_g) (a0 a1 a2 : Int), I m g → z_ok a0 → z_ok a1 → z_ok a2 → z_pI I 47 211 [.inl a0, .inl a1, .inl a2] m g) : z_case I L 6 := by
  intro m g i h hi back
  have e := hI m g h
  refine z_wp_T (cd := q_c296) (cs := [1064]) rfl 60 194 _ _ _ _ ?_
  apply And.intro
  · exact ⟨by show (0 : Int) ≤ (i : Int) + 1; omega, by show (i : Int) + 1 < (g.1 : Int); omega⟩
  apply And.intro
  · exact ⟨by show (0 : Int) ≤ (i : Int) + 2; omega, by show (i : Int) + 2 < (g.1 : Int); omega⟩
  apply And.intro
  · exact ⟨by show (0 : Int) ≤ (i : Int) + 3; omega, by show (i : Int) + 3 < (g.1 : Int); omega⟩
  refine z_C.imp (hp m g (m 1001 ((i : Int) + 1).toNat) (m 1001 ((i : Int) + 2).toNat) (m 1001 ((i : Int) + 3).toNat) h (hs m g h _) (hs m g h _) (hs m g h _)) ?_
  rintro _ _ ⟨v, m1, g1, rfl, rfl, e1, e2, h2⟩
  apply And.intro
  · exact ⟨by show (0 : Int) ≤ (i : Int) + 1; omega, by show (i : Int) + 1 < (g1.1 : Int); omega⟩
  apply And.intro
  · exact ⟨by show (0 : Int) ≤ (i : Int) + 2; omega, by show (i : Int) + 2 < (g1.1 : Int); omega⟩
  apply And.intro
  · exact ⟨by show (0 : Int) ≤ (i : Int) + 3; omega, by show (i : Int) + 3 < (g1.1 : Int); omega⟩
  have h2 := h2
  rw [← e1 ((i : Int) + 1).toNat] at h2
  rw [← e1 ((i : Int) + 2).toNat] at h2
  rw [← e1 ((i : Int) + 3).toNat] at h2
  refine z_C.imp h2 ?_
  rintro _ _ ⟨v', m2, g2, rfl, rfl, e3, h3⟩
  apply And.intro
  · intro _
    exact back m2 g2 h3
  · intro hb
    exact (z_nn e3 hb).elim
set_option maxRecDepth 100000 in
theorem l_case7 {I : z_M → z_g → Prop} {L : Nat} (hI : ∀ m g, I m g → g.1 = L) (hs : ∀ m g, I m g → ∀ j, z_ok (m 1001 j)) (hp : ∀ (m : z_M) (g : z_g) (a0 a1 : Int), I m g → z_ok a0 → z_ok a1 → z_pI I 48 212 [.inl a0, .inl a1] m g) : z_case I L 7 := by
  intro m g i h hi back
  have e := hI m g h
  refine z_wp_T (cd := q_c296) (cs := [1064]) rfl 60 231 _ _ _ _ ?_
  apply And.intro
  · exact ⟨by show (0 : Int) ≤ (i : Int) + 1; omega, by show (i : Int) + 1 < (g.1 : Int); omega⟩
  apply And.intro
  · exact ⟨by show (0 : Int) ≤ (i : Int) + 2; omega, by show (i : Int) + 2 < (g.1 : Int); omega⟩
  refine z_C.imp (hp m g (m 1001 ((i : Int) + 1).toNat) (m 1001 ((i : Int) + 2).toNat) h (hs m g h _) (hs m g h _)) ?_
  rintro _ _ ⟨v, m1, g1, rfl, rfl, e1, e2, h2⟩
  apply And.intro
  · exact ⟨by show (0 : Int) ≤ (i : Int) + 1; omega, by show (i : Int) + 1 < (g1.1 : Int); omega⟩
  apply And.intro
  · exact ⟨by show (0 : Int) ≤ (i : Int) + 2; omega, by show (i : Int) + 2 < (g1.1 : Int); omega⟩
  have h2 := h2
  rw [← e1 ((i : Int) + 1).toNat] at h2
  rw [← e1 ((i : Int) + 2).toNat] at h2
  refine z_C.imp h2 ?_
  rintro _ _ ⟨v', m2, g2, rfl, rfl, e3, h3⟩
  apply And.intro
  · intro _
    exact back m2 g2 h3
  · intro hb
    exact (z_nn e3 hb).elim
set_option maxRecDepth 100000 in
theorem l_case8 {I : z_M → z_g → Prop} {L : Nat} (hI : ∀ m g, I m g → g.1 = L) (hs : ∀ m g, I m g → ∀ j, z_ok (m 1001 j)) (hp : ∀ (m : z_M) (g : z_g) (a0 a1 a2 : Int), I m g → z_ok a0 → z_ok a1 → z_ok a2 → z_pI I 73 228 [.inl a0, .inl a1, .inl a2] m g) : z_case I L 8 := by
  intro m g i h hi back
  have e := hI m g h
  refine z_wp_T (cd := q_c296) (cs := [1064]) rfl 60 258 _ _ _ _ ?_
  apply And.intro
  · exact ⟨by show (0 : Int) ≤ (i : Int) + 1; omega, by show (i : Int) + 1 < (g.1 : Int); omega⟩
  apply And.intro
  · exact ⟨by show (0 : Int) ≤ (i : Int) + 2; omega, by show (i : Int) + 2 < (g.1 : Int); omega⟩
  apply And.intro
  · exact ⟨by show (0 : Int) ≤ (i : Int) + 3; omega, by show (i : Int) + 3 < (g.1 : Int); omega⟩
  refine z_C.imp (hp m g (m 1001 ((i : Int) + 1).toNat) (m 1001 ((i : Int) + 2).toNat) (m 1001 ((i : Int) + 3).toNat) h (hs m g h _) (hs m g h _) (hs m g h _)) ?_
  rintro _ _ ⟨v, m1, g1, rfl, rfl, e1, e2, h2⟩
  apply And.intro
  · exact ⟨by show (0 : Int) ≤ (i : Int) + 1; omega, by show (i : Int) + 1 < (g1.1 : Int); omega⟩
  apply And.intro
  · exact ⟨by show (0 : Int) ≤ (i : Int) + 2; omega, by show (i : Int) + 2 < (g1.1 : Int); omega⟩
  apply And.intro
  · exact ⟨by show (0 : Int) ≤ (i : Int) + 3; omega, by show (i : Int) + 3 < (g1.1 : Int); omega⟩
  have h2 := h2
  rw [← e1 ((i : Int) + 1).toNat] at h2
  rw [← e1 ((i : Int) + 2).toNat] at h2
  rw [← e1 ((i : Int) + 3).toNat] at h2
  refine z_C.imp h2 ?_
  rintro _ _ ⟨v', m2, g2, rfl, rfl, e3, h3⟩
  apply And.intro
  · intro _
    exact back m2 g2 h3
  · intro hb
    exact (z_nn e3 hb).elim
set_option maxRecDepth 100000 in
theorem l_case9 {I : z_M → z_g → Prop} {L : Nat} (hI : ∀ m g, I m g → g.1 = L) (hs : ∀ m g, I m g → ∀ j, z_ok (m 1001 j)) (hp : ∀ (m : z_M) (g : z_g) (a0 a1 a2 : Int), I m g → z_ok a0 → z_ok a1 → z_ok a2 → z_pI I 74 229 [.inl a0, .inl a1, .inl a2] m g) : z_case I L 9 := by
  intro m g i h hi back
  have e := hI m g h
  refine z_wp_T (cd := q_c296) (cs := [1064]) rfl 60 295 _ _ _ _ ?_
  apply And.intro
  · exact ⟨by show (0 : Int) ≤ (i : Int) + 1; omega, by show (i : Int) + 1 < (g.1 : Int); omega⟩
  apply And.intro
  · exact ⟨by show (0 : Int) ≤ (i : Int) + 2; omega, by show (i : Int) + 2 < (g.1 : Int); omega⟩
  apply And.intro
  · exact ⟨by show (0 : Int) ≤ (i : Int) + 3; omega, by show (i : Int) + 3 < (g.1 : Int); omega⟩
  refine z_C.imp (hp m g (m 1001 ((i : Int) + 1).toNat) (m 1001 ((i : Int) + 2).toNat) (m 1001 ((i : Int) + 3).toNat) h (hs m g h _) (hs m g h _) (hs m g h _)) ?_
  rintro _ _ ⟨v, m1, g1, rfl, rfl, e1, e2, h2⟩
  apply And.intro
  · exact ⟨by show (0 : Int) ≤ (i : Int) + 1; omega, by show (i : Int) + 1 < (g1.1 : Int); omega⟩
  apply And.intro
  · exact ⟨by show (0 : Int) ≤ (i : Int) + 2; omega, by show (i : Int) + 2 < (g1.1 : Int); omega⟩
  apply And.intro
  · exact ⟨by show (0 : Int) ≤ (i : Int) + 3; omega, by show (i : Int) + 3 < (g1.1 : Int); omega⟩
  have h2 := h2
  rw [← e1 ((i : Int) + 1).toNat] at h2
  rw [← e1 ((i : Int) + 2).toNat] at h2
  rw [← e1 ((i : Int) + 3).toNat] at h2
  refine z_C.imp h2 ?_
  rintro _ _ ⟨v', m2, g2, rfl, rfl, e3, h3⟩
  apply And.intro
  · intro _
    exact back m2 g2 h3
  · intro hb
    exact (z_nn e3 hb).elim
set_option maxRecDepth 100000 in
theorem l_case10 {I : z_M → z_g → Prop} {L : Nat} (hI : ∀ m g, I m g → g.1 = L) (hs : ∀ m g, I m g → ∀ j, z_ok (m 1001 j)) (hp : ∀ (m : z_M) (g : z_g) (a0 a1 : Int), I m g → z_ok a0 → z_ok a1 → z_pI I 77 232 [.inl a0, .inl a1] m g) : z_case I L 10 := by
  intro m g i h hi back
  have e := hI m g h
  refine z_wp_T (cd := q_c296) (cs := [1064]) rfl 60 332 _ _ _ _ ?_
  apply And.intro
  · exact ⟨by show (0 : Int) ≤ (i : Int) + 1; omega, by show (i : Int) + 1 < (g.1 : Int); omega⟩
  apply And.intro
  · exact ⟨by show (0 : Int) ≤ (i : Int) + 2; omega, by show (i : Int) + 2 < (g.1 : Int); omega⟩
  refine z_C.imp (hp m g (m 1001 ((i : Int) + 1).toNat) (m 1001 ((i : Int) + 2).toNat) h (hs m g h _) (hs m g h _)) ?_
  rintro _ _ ⟨v, m1, g1, rfl, rfl, e1, e2, h2⟩
  apply And.intro
  · exact ⟨by show (0 : Int) ≤ (i : Int) + 1; omega, by show (i : Int) + 1 < (g1.1 : Int); omega⟩
  apply And.intro
  · exact ⟨by show (0 : Int) ≤ (i : Int) + 2; omega, by show (i : Int) + 2 < (g1.1 : Int); omega⟩
  have h2 := h2
  rw [← e1 ((i : Int) + 1).toNat] at h2
  rw [← e1 ((i : Int) + 2).toNat] at h2
  refine z_C.imp h2 ?_
  rintro _ _ ⟨v', m2, g2, rfl, rfl, e3, h3⟩
  apply And.intro
  · intro _
    exact back m2 g2 h3
  · intro hb
    exact (z_nn e3 hb).elim
set_option maxRecDepth 100000 in
theorem l_case11 {I : z_M → z_g → Prop} {L : Nat} (hI : ∀ m g, I m g → g.1 = L) (hs : ∀ m g, I m g → ∀ j, z_ok (m 1001 j)) (hp : ∀ (m : z_M) (g : z_g) (a0 a1 a2 : Int), I m g → z_ok a0 → z_ok a1 → z_ok a2 → z_pI I 79 233 [.inl a0, .inl a1, .inl a2] m g) : z_case I L 11 := by
  intro m g i h hi back
  have e := hI m g h
  refine z_wp_T (cd := q_c296) (cs := [1064]) rfl 60 359 _ _ _ _ ?_
  apply And.intro
  · exact ⟨by show (0 : Int) ≤ (i : Int) + 1; omega, by show (i : Int) + 1 < (g.1 : Int); omega⟩
  apply And.intro
  · exact ⟨by show (0 : Int) ≤ (i : Int) + 2; omega, by show (i : Int) + 2 < (g.1 : Int); omega⟩
  apply And.intro
  · exact ⟨by show (0 : Int) ≤ (i : Int) + 3; omega, by show (i : Int) + 3 < (g.1 : Int); omega⟩
  refine z_C.imp (hp m g (m 1001 ((i : Int) + 1).toNat) (m 1001 ((i : Int) + 2).toNat) (m 1001 ((i : Int) + 3).toNat) h (hs m g h _) (hs m g h _) (hs m g h _)) ?_
  rintro _ _ ⟨v, m1, g1, rfl, rfl, e1, e2, h2⟩
  apply And.intro
  · exact ⟨by show (0 : Int) ≤ (i : Int) + 1; omega, by show (i : Int) + 1 < (g1.1 : Int); omega⟩
  apply And.intro
  · exact ⟨by show (0 : Int) ≤ (i : Int) + 2; omega, by show (i : Int) + 2 < (g1.1 : Int); omega⟩
  apply And.intro
  · exact ⟨by show (0 : Int) ≤ (i : Int) + 3; omega, by show (i : Int) + 3 < (g1.1 : Int); omega⟩
  have h2 := h2
  rw [← e1 ((i : Int) + 1).toNat] at h2
  rw [← e1 ((i : Int) + 2).toNat] at h2
  rw [← e1 ((i : Int) + 3).toNat] at h2
  refine z_C.imp h2 ?_
  rintro _ _ ⟨v', m2, g2, rfl, rfl, e3, h3⟩
  apply And.intro
  · intro _
    exact back m2 g2 h3
  · intro hb
    exact (z_nn e3 hb).elim
set_option maxRecDepth 100000 in
theorem l_case12 {I : z_M → z_g → Prop} {L : Nat} (hI : ∀ m g, I m g → g.1 = L) (hs : ∀ m g, I m g → ∀ j, z_ok (m 1001 j)) (hp : ∀ (m : z_M) (g : z_g) (a0 : Int), I m g → z_ok a0 → z_pI I 83 235 [.inl a0] m g) : z_case I L 12 := by
  intro m g i h hi back
  have e := hI m g h
  refine z_wp_T (cd := q_c296) (cs := [1064]) rfl 60 396 _ _ _ _ ?_
  apply And.intro
  · exact ⟨by show (0 : Int) ≤ (i : Int) + 1; omega, by show (i : Int) + 1 < (g.1 : Int); omega⟩
  refine z_C.imp (hp m g (m 1001 ((i : Int) + 1).toNat) h (hs m g h _)) ?_
  rintro _ _ ⟨v, m1, g1, rfl, rfl, e1, e2, h2⟩
  apply And.intro
  · exact ⟨by show (0 : Int) ≤ (i : Int) + 1; omega, by show (i : Int) + 1 < (g1.1 : Int); omega⟩
  have h2 := h2
  rw [← e1 ((i : Int) + 1).toNat] at h2
  refine z_C.imp h2 ?_
  rintro _ _ ⟨v', m2, g2, rfl, rfl, e3, h3⟩
  apply And.intro
  · intro _
    exact back m2 g2 h3
  · intro hb
    exact (z_nn e3 hb).elim
set_option maxRecDepth 100000 in
theorem l_case13 {I : z_M → z_g → Prop} {L : Nat} (hI : ∀ m g, I m g → g.1 = L) (hs : ∀ m g, I m g → ∀ j, z_ok (m 1001 j)) (hp : ∀ (m : z_M) (g : z_g) (a0 a1 a2 : Int), I m g → z_ok a0 → z_ok a1 → z_ok a2 → z_pI I 91 240 [.inl a0, .inl a1, .inl a2] m g) : z_case I L 13 := by
  intro m g i h hi back
  have e := hI m g h
  refine z_wp_T (cd := q_c296) (cs := [1064]) rfl 60 413 _ _ _ _ ?_
  apply And.intro
  · exact ⟨by show (0 : Int) ≤ (i : Int) + 1; omega, by show (i : Int) + 1 < (g.1 : Int); omega⟩
  apply And.intro
  · exact ⟨by show (0 : Int) ≤ (i : Int) + 2; omega, by show (i : Int) + 2 < (g.1 : Int); omega⟩
  apply And.intro
  · exact ⟨by show (0 : Int) ≤ (i : Int) + 3; omega, by show (i : Int) + 3 < (g.1 : Int); omega⟩
  refine z_C.imp (hp m g (m 1001 ((i : Int) + 1).toNat) (m 1001 ((i : Int) + 2).toNat) (m 1001 ((i : Int) + 3).toNat) h (hs m g h _) (hs m g h _) (hs m g h _)) ?_
  rintro _ _ ⟨v, m1, g1, rfl, rfl, e1, e2, h2⟩
  apply And.intro
  · exact ⟨by show (0 : Int) ≤ (i : Int) + 1; omega, by show (i : Int) + 1 < (g1.1 : Int); omega⟩
  apply And.intro
  · exact ⟨by show (0 : Int) ≤ (i : Int) + 2; omega, by show (i : Int) + 2 < (g1.1 : Int); omega⟩
  apply And.intro
  · exact ⟨by show (0 : Int) ≤ (i : Int) + 3; omega, by show (i : Int) + 3 < (g1.1 : Int); omega⟩
  have h2 := h2
  rw [← e1 ((i : Int) + 1).toNat] at h2
  rw [← e1 ((i : Int) + 2).toNat] at h2
  rw [← e1 ((i : Int) + 3).toNat] at h2
  refine z_C.imp h2 ?_
  rintro _ _ ⟨v', m2, g2, rfl, rfl, e3, h3⟩
  apply And.intro
  · intro _
    exact back m2 g2 h3
  · intro hb
    exact (z_nn e3 hb).elim
set_option maxRecDepth 100000 in
theorem l_case14 {I : z_M → z_g → Prop} {L : Nat} (hI : ∀ m g, I m g → g.1 = L) (hs : ∀ m g, I m g → ∀ j, z_ok (m 1001 j)) (hp : ∀ (m : z_M) (g : z_g) (a0 a1 : Int), I m g → z_ok a0 → z_ok a1 → z_pI I 105 243 [.inl a0, .inl a1] m g) : z_case I L 14 := by
  intro m g i h hi back
  have e := hI m g h
  refine z_wp_T (cd := q_c296) (cs := [1064]) rfl 60 450 _ _ _ _ ?_
  apply And.intro
  · exact ⟨by show (0 : Int) ≤ (i : Int) + 1; omega, by show (i : Int) + 1 < (g.1 : Int); omega⟩
  apply And.intro
  · exact ⟨by show (0 : Int) ≤ (i : Int) + 2; omega, by show (i : Int) + 2 < (g.1 : Int); omega⟩
  refine z_C.imp (hp m g (m 1001 ((i : Int) + 1).toNat) (m 1001 ((i : Int) + 2).toNat) h (hs m g h _) (hs m g h _)) ?_
  rintro _ _ ⟨v, m1, g1, rfl, rfl, e1, e2, h2⟩
  apply And.intro
  · exact ⟨by show (0 : Int) ≤ (i : Int) + 1; omega, by show (i : Int) + 1 < (g1.1 : Int); omega⟩
  apply And.intro
  · exact ⟨by show (0 : Int) ≤ (i : Int) + 2; omega, by show (i : Int) + 2 < (g1.1 : Int); omega⟩
  have h2 := h2
  rw [← e1 ((i : Int) + 1).toNat] at h2
  rw [← e1 ((i : Int) + 2).toNat] at h2
  refine z_C.imp h2 ?_
  rintro _ _ ⟨v', m2, g2, rfl, rfl, e3, h3⟩
  apply And.intro
  · intro _
    exact back m2 g2 h3
  · intro hb
    exact (z_nn e3 hb).elim
set_option maxRecDepth 100000 in
theorem l_case15 {I : z_M → z_g → Prop} {L : Nat} (hI : ∀ m g, I m g → g.1 = L) (hs : ∀ m g, I m g → ∀ j, z_ok (m 1001 j)) (hp : ∀ (m : z_M) (g : z_g) (a0 a1 a2 : Int), I m g → z_ok a0 → z_ok a1 → z_ok a2 → z_pI I 110 249 [.inl a0, .inl a1, .inl a2] m g) : z_case I L 15 := by
  intro m g i h hi back
  have e := hI m g h
  refine z_wp_T (cd := q_c296) (cs := [1064]) rfl 60 477 _ _ _ _ ?_
  apply And.intro
  · exact ⟨by show (0 : Int) ≤ (i : Int) + 1; omega, by show (i : Int) + 1 < (g.1 : Int); omega⟩
  apply And.intro
  · exact ⟨by show (0 : Int) ≤ (i : Int) + 2; omega, by show (i : Int) + 2 < (g.1 : Int); omega⟩
  apply And.intro
  · exact ⟨by show (0 : Int) ≤ (i : Int) + 3; omega, by show (i : Int) + 3 < (g.1 : Int); omega⟩
  refine z_C.imp (hp m g (m 1001 ((i : Int) + 1).toNat) (m 1001 ((i : Int) + 2).toNat) (m 1001 ((i : Int) + 3).toNat) h (hs m g h _) (hs m g h _) (hs m g h _)) ?_
  rintro _ _ ⟨v, m1, g1, rfl, rfl, e1, e2, h2⟩
  apply And.intro
  · exact ⟨by show (0 : Int) ≤ (i : Int) + 1; omega, by show (i : Int) + 1 < (g1.1 : Int); omega⟩
  apply And.intro
  · exact ⟨by show (0 : Int) ≤ (i : Int) + 2; omega, by show (i : Int) + 2 < (g1.1 : Int); omega⟩
  apply And.intro
  · exact ⟨by show (0 : Int) ≤ (i : Int) + 3; omega, by show (i : Int) + 3 < (g1.1 : Int); omega⟩
  have h2 := h2
  rw [← e1 ((i : Int) + 1).toNat] at h2
  rw [← e1 ((i : Int) + 2).toNat] at h2
  rw [← e1 ((i : Int) + 3).toNat] at h2
  refine z_C.imp h2 ?_
  rintro _ _ ⟨v', m2, g2, rfl, rfl, e3, h3⟩
  apply And.intro
  · intro _
    exact back m2 g2 h3
  · intro hb
    exact (z_nn e3 hb).elim
set_option maxRecDepth 100000 in
theorem l_case16 {I : z_M → z_g → Prop} {L : Nat} (hI : ∀ m g, I m g → g.1 = L) (hs : ∀ m g, I m g → ∀ j, z_ok (m 1001 j)) (hp : ∀ (m : z_M) (g : z_g) (a0 a1 : Int), I m g → z_ok a0 → z_ok a1 → z_pI I 112 251 [.inl a0, .inl a1] m g) : z_case I L 16 := by
  intro m g i h hi back
  have e := hI m g h
  refine z_wp_T (cd := q_c296) (cs := [1064]) rfl 60 514 _ _ _ _ ?_
  apply And.intro
  · exact ⟨by show (0 : Int) ≤ (i : Int) + 1; omega, by show (i : Int) + 1 < (g.1 : Int); omega⟩
  apply And.intro
  · exact ⟨by show (0 : Int) ≤ (i : Int) + 2; omega, by show (i : Int) + 2 < (g.1 : Int); omega⟩
  refine z_C.imp (hp m g (m 1001 ((i : Int) + 1).toNat) (m 1001 ((i : Int) + 2).toNat) h (hs m g h _) (hs m g h _)) ?_
  rintro _ _ ⟨v, m1, g1, rfl, rfl, e1, e2, h2⟩
  apply And.intro
  · exact ⟨by show (0 : Int) ≤ (i : Int) + 1; omega, by show (i : Int) + 1 < (g1.1 : Int); omega⟩
  apply And.intro
  · exact ⟨by show (0 : Int) ≤ (i : Int) + 2; omega, by show (i : Int) + 2 < (g1.1 : Int); omega⟩
  have h2 := h2
  rw [← e1 ((i : Int) + 1).toNat] at h2
  rw [← e1 ((i : Int) + 2).toNat] at h2
  refine z_C.imp h2 ?_
  rintro _ _ ⟨v', m2, g2, rfl, rfl, e3, h3⟩
  apply And.intro
  · intro _
    exact back m2 g2 h3
  · intro hb
    exact (z_nn e3 hb).elim
set_option maxRecDepth 100000 in
theorem l_case17 {I : z_M → z_g → Prop} {L : Nat} (hI : ∀ m g, I m g → g.1 = L) (hs : ∀ m g, I m g → ∀ j, z_ok (m 1001 j)) (hp : ∀ (m : z_M) (g : z_g) (a0 a1 : Int), I m g → z_ok a0 → z_ok a1 → z_pI I 117 255 [.inl a0, .inl a1] m g) : z_case I L 17 := by
  intro m g i h hi back
  have e := hI m g h
  refine z_wp_T (cd := q_c296) (cs := [1064]) rfl 60 541 _ _ _ _ ?_
  apply And.intro
  · exact ⟨by show (0 : Int) ≤ (i : Int) + 1; omega, by show (i : Int) + 1 < (g.1 : Int); omega⟩
  apply And.intro
  · exact ⟨by show (0 : Int) ≤ (i : Int) + 2; omega, by show (i : Int) + 2 < (g.1 : Int); omega⟩
  refine z_C.imp (hp m g (m 1001 ((i : Int) + 1).toNat) (m 1001 ((i : Int) + 2).toNat) h (hs m g h _) (hs m g h _)) ?_
  rintro _ _ ⟨v, m1, g1, rfl, rfl, e1, e2, h2⟩
  apply And.intro
  · exact ⟨by show (0 : Int) ≤ (i : Int) + 1; omega, by show (i : Int) + 1 < (g1.1 : Int); omega⟩
  apply And.intro
  · exact ⟨by show (0 : Int) ≤ (i : Int) + 2; omega, by show (i : Int) + 2 < (g1.1 : Int); omega⟩
  have h2 := h2
  rw [← e1 ((i : Int) + 1).toNat] at h2
  rw [← e1 ((i : Int) + 2).toNat] at h2
  refine z_C.imp h2 ?_
  rintro _ _ ⟨v', m2, g2, rfl, rfl, e3, h3⟩
  apply And.intro
  · intro _
    exact back m2 g2 h3
  · intro hb
    exact (z_nn e3 hb).elim
set_option maxRecDepth 100000 in
theorem l_case18 {I : z_M → z_g → Prop} {L : Nat} (hI : ∀ m g, I m g → g.1 = L) (hs : ∀ m g, I m g → ∀ j, z_ok (m 1001 j)) (hp : ∀ (m : z_M) (g : z_g) (a0 : Int), I m g → z_ok a0 → z_pI I 118 256 [.inl a0] m g) : z_case I L 18 := by
  intro m g i h hi back
  have e := hI m g h
  refine z_wp_T (cd := q_c296) (cs := [1064]) rfl 60 568 _ _ _ _ ?_
  apply And.intro
  · exact ⟨by show (0 : Int) ≤ (i : Int) + 1; omega, by show (i : Int) + 1 < (g.1 : Int); omega⟩
  refine z_C.imp (hp m g (m 1001 ((i : Int) + 1).toNat) h (hs m g h _)) ?_
  rintro _ _ ⟨v, m1, g1, rfl, rfl, e1, e2, h2⟩
  apply And.intro
  · exact ⟨by show (0 : Int) ≤ (i : Int) + 1; omega, by show (i : Int) + 1 < (g1.1 : Int); omega⟩
  have h2 := h2
  rw [← e1 ((i : Int) + 1).toNat] at h2
  refine z_C.imp h2 ?_
  rintro _ _ ⟨v', m2, g2, rfl, rfl, e3, h3⟩
  apply And.intro
  · intro _
    exact back m2 g2 h3
  · intro hb
    exact (z_nn e3 hb).elim
set_option maxRecDepth 100000 in
theorem l_case19 {I : z_M → z_g → Prop} {L : Nat} (hI : ∀ m g, I m g → g.1 = L) (hs : ∀ m g, I m g → ∀ j, z_ok (m 1001 j)) (hp : ∀ (m : z_M) (g : z_g) (a0 a1 : Int), I m g → z_ok a0 → z_ok a1 → z_pI I 121 258 [.inl a0, .inl a1] m g) : z_case I L 19 := by
  intro m g i h hi back
  have e := hI m g h
  refine z_wp_T (cd := q_c296) (cs := [1064]) rfl 60 585 _ _ _ _ ?_
  apply And.intro
  · exact ⟨by show (0 : Int) ≤ (i : Int) + 1; omega, by show (i : Int) + 1 < (g.1 : Int); omega⟩
  apply And.intro
  · exact ⟨by show (0 : Int) ≤ (i : Int) + 2; omega, by show (i : Int) + 2 < (g.1 : Int); omega⟩
  refine z_C.imp (hp m g (m 1001 ((i : Int) + 1).toNat) (m 1001 ((i : Int) + 2).toNat) h (hs m g h _) (hs m g h _)) ?_
  rintro _ _ ⟨v, m1, g1, rfl, rfl, e1, e2, h2⟩
  apply And.intro
  · exact ⟨by show (0 : Int) ≤ (i : Int) + 1; omega, by show (i : Int) + 1 < (g1.1 : Int); omega⟩
  apply And.intro
  · exact ⟨by show (0 : Int) ≤ (i : Int) + 2; omega, by show (i : Int) + 2 < (g1.1 : Int); omega⟩
  have h2 := h2
  rw [← e1 ((i : Int) + 1).toNat] at h2
  rw [← e1 ((i : Int) + 2).toNat] at h2
  refine z_C.imp h2 ?_
  rintro _ _ ⟨v', m2, g2, rfl, rfl, e3, h3⟩
  apply And.intro
  · intro _
    exact back m2 g2 h3
  · intro hb
    exact (z_nn e3 hb).elim
set_option maxRecDepth 100000 in
theorem l_case20 {I : z_M → z_g → Prop} {L : Nat} (hI : ∀ m g, I m g → g.1 = L) (hs : ∀ m g, I m g → ∀ j, z_ok (m 1001 j)) (hp : ∀ (m : z_M) (g : z_g) (a0 a1 : Int), I m g → z_ok a0 → z_ok a1 → z_pI I 124 259 [.inl a0, .inl a1] m g) : z_case I L 20 := by
  intro m g i h hi back
  have e := hI m g h
  refine z_wp_T (cd := q_c296) (cs := [1064]) rfl 60 612 _ _ _ _ ?_
  apply And.intro
  · exact ⟨by show (0 : Int) ≤ (i : Int) + 1; omega, by show (i : Int) + 1 < (g.1 : Int); omega⟩
  apply And.intro
  · exact ⟨by show (0 : Int) ≤ (i : Int) + 2; omega, by show (i : Int) + 2 < (g.1 : Int); omega⟩
  refine z_C.imp (hp m g (m 1001 ((i : Int) + 1).toNat) (m 1001 ((i : Int) + 2).toNat) h (hs m g h _) (hs m g h _)) ?_
  rintro _ _ ⟨v, m1, g1, rfl, rfl, e1, e2, h2⟩
  apply And.intro
  · exact ⟨by show (0 : Int) ≤ (i : Int) + 1; omega, by show (i : Int) + 1 < (g1.1 : Int); omega⟩
  apply And.intro
  · exact ⟨by show (0 : Int) ≤ (i : Int) + 2; omega, by show (i : Int) + 2 < (g1.1 : Int); omega⟩
  have h2 := h2
  rw [← e1 ((i : Int) + 1).toNat] at h2
  rw [← e1 ((i : Int) + 2).toNat] at h2
  refine z_C.imp h2 ?_
  rintro _ _ ⟨v', m2, g2, rfl, rfl, e3, h3⟩
  apply And.intro
  · intro _
    exact back m2 g2 h3
  · intro hb
    exact (z_nn e3 hb).elim
set_option maxRecDepth 100000 in
theorem l_case21 {I : z_M → z_g → Prop} {L : Nat} (hI : ∀ m g, I m g → g.1 = L) (hs : ∀ m g, I m g → ∀ j, z_ok (m 1001 j)) (hp : ∀ (m : z_M) (g : z_g) (a0 : Int), I m g → z_ok a0 → z_pI I 129 261 [.inl a0] m g) : z_case I L 21 := by
  intro m g i h hi back
  have e := hI m g h
  refine z_wp_T (cd := q_c296) (cs := [1064]) rfl 60 639 _ _ _ _ ?_
  apply And.intro
  · exact ⟨by show (0 : Int) ≤ (i : Int) + 1; omega, by show (i : Int) + 1 < (g.1 : Int); omega⟩
  refine z_C.imp (hp m g (m 1001 ((i : Int) + 1).toNat) h (hs m g h _)) ?_
  rintro _ _ ⟨v, m1, g1, rfl, rfl, e1, e2, h2⟩
  apply And.intro
  · exact ⟨by show (0 : Int) ≤ (i : Int) + 1; omega, by show (i : Int) + 1 < (g1.1 : Int); omega⟩
  have h2 := h2
  rw [← e1 ((i : Int) + 1).toNat] at h2
  refine z_C.imp h2 ?_
  rintro _ _ ⟨v', m2, g2, rfl, rfl, e3, h3⟩
  apply And.intro
  · intro _
    exact back m2 g2 h3
  · intro hb
    exact (z_nn e3 hb).elim
set_option maxRecDepth 100000 in
theorem l_case22 {I : z_M → z_g → Prop} {L : Nat} (hI : ∀ m g, I m g → g.1 = L) (hs : ∀ m g, I m g → ∀ j, z_ok (m 1001 j)) (hp : ∀ (m : z_M) (g : z_g) (a0 a1 a2 : Int), I m g → z_ok a0 → z_ok a1 → z_ok a2 → z_pL I 131 262 [.inl a0, .inl a1, .inl a2] m g) : z_case I L 22 := by
  intro m g i h hi back
  have e := hI m g h
  refine z_wp_T (cd := q_c296) (cs := [1064]) rfl 60 656 _ _ _ _ ?_
  apply And.intro
  · exact ⟨by show (0 : Int) ≤ (i : Int) + 1; omega, by show (i : Int) + 1 < (g.1 : Int); omega⟩
  apply And.intro
  · exact ⟨by show (0 : Int) ≤ (i : Int) + 2; omega, by show (i : Int) + 2 < (g.1 : Int); omega⟩
  apply And.intro
  · exact ⟨by show (0 : Int) ≤ (i : Int) + 3; omega, by show (i : Int) + 3 < (g.1 : Int); omega⟩
  refine z_C.imp (hp m g (m 1001 ((i : Int) + 1).toNat) (m 1001 ((i : Int) + 2).toNat) (m 1001 ((i : Int) + 3).toNat) h (hs m g h _) (hs m g h _) (hs m g h _)) ?_
  rintro _ _ ⟨v, m1, g1, rfl, rfl, e1, e2, h2⟩
  apply And.intro
  · exact ⟨by show (0 : Int) ≤ (i : Int) + 1; omega, by show (i : Int) + 1 < (g1.1 : Int); omega⟩
  apply And.intro
  · exact ⟨by show (0 : Int) ≤ (i : Int) + 2; omega, by show (i : Int) + 2 < (g1.1 : Int); omega⟩
  apply And.intro
  · exact ⟨by show (0 : Int) ≤ (i : Int) + 3; omega, by show (i : Int) + 3 < (g1.1 : Int); omega⟩
  have h2 := h2
  rw [← e1 ((i : Int) + 1).toNat] at h2
  rw [← e1 ((i : Int) + 2).toNat] at h2
  rw [← e1 ((i : Int) + 3).toNat] at h2
  refine z_C.imp h2 ?_
  rintro _ _ ⟨v', m2, g2, rfl, rfl, e3, h3⟩
  apply And.intro
  · intro _
    exact back m2 g2 h3
  · intro hb
    exact (z_lcn e3 hb).elim
set_option maxRecDepth 100000 in
theorem l_case23 {I : z_M → z_g → Prop} {L : Nat} (hI : ∀ m g, I m g → g.1 = L) (hs : ∀ m g, I m g → ∀ j, z_ok (m 1001 j)) (hp : ∀ (m : z_M) (g : z_g) (a0 a1 : Int), I m g → z_ok a0 → z_ok a1 → z_pI I 135 264 [.inl a0, .inl a1] m g) : z_case I L 23 := by
  intro m g i h hi back
  have e := hI m g h
  refine z_wp_T (cd := q_c296) (cs := [1064]) rfl 60 694 _ _ _ _ ?_
  apply And.intro
  · exact ⟨by show (0 : Int) ≤ (i : Int) + 1; omega, by show (i : Int) + 1 < (g.1 : Int); omega⟩
  apply And.intro
  · exact ⟨by show (0 : Int) ≤ (i : Int) + 2; omega, by show (i : Int) + 2 < (g.1 : Int); omega⟩
  refine z_C.imp (hp m g (m 1001 ((i : Int) + 1).toNat) (m 1001 ((i : Int) + 2).toNat) h (hs m g h _) (hs m g h _)) ?_
  rintro _ _ ⟨v, m1, g1, rfl, rfl, e1, e2, h2⟩
  apply And.intro
  · exact ⟨by show (0 : Int) ≤ (i : Int) + 1; omega, by show (i : Int) + 1 < (g1.1 : Int); omega⟩
  apply And.intro
  · exact ⟨by show (0 : Int) ≤ (i : Int) + 2; omega, by show (i : Int) + 2 < (g1.1 : Int); omega⟩
  have h2 := h2
  rw [← e1 ((i : Int) + 1).toNat] at h2
  rw [← e1 ((i : Int) + 2).toNat] at h2
  refine z_C.imp h2 ?_
  rintro _ _ ⟨v', m2, g2, rfl, rfl, e3, h3⟩
  apply And.intro
  · intro _
    exact back m2 g2 h3
  · intro hb
    exact (z_nn e3 hb).elim
set_option maxRecDepth 100000 in
theorem l_case24 {I : z_M → z_g → Prop} {L : Nat} (hI : ∀ m g, I m g → g.1 = L) (hs : ∀ m g, I m g → ∀ j, z_ok (m 1001 j)) (hp : ∀ (m : z_M) (g : z_g) (a0 a1 a2 : Int), I m g → z_ok a0 → z_ok a1 → z_ok a2 → z_pI I 137 265 [.inl a0, .inl a1, .inl a2] m g) : z_case I L 24 := by
  intro m g i h hi back
  have e := hI m g h
  refine z_wp_T (cd := q_c296) (cs := [1064]) rfl 60 721 _ _ _ _ ?_
  apply And.intro
  · exact ⟨by show (0 : Int) ≤ (i : Int) + 1; omega, by show (i : Int) + 1 < (g.1 : Int); omega⟩
  apply And.intro
  · exact ⟨by show (0 : Int) ≤ (i : Int) + 2; omega, by show (i : Int) + 2 < (g.1 : Int); omega⟩
  apply And.intro
  · exact ⟨by show (0 : Int) ≤ (i : Int) + 3; omega, by show (i : Int) + 3 < (g.1 : Int); omega⟩
  refine z_C.imp (hp m g (m 1001 ((i : Int) + 1).toNat) (m 1001 ((i : Int) + 2).toNat) (m 1001 ((i : Int) + 3).toNat) h (hs m g h _) (hs m g h _) (hs m g h _)) ?_
  rintro _ _ ⟨v, m1, g1, rfl, rfl, e1, e2, h2⟩
  apply And.intro
  · exact ⟨by show (0 : Int) ≤ (i : Int) + 1; omega, by show (i : Int) + 1 < (g1.1 : Int); omega⟩
  apply And.intro
  · exact ⟨by show (0 : Int) ≤ (i : Int) + 2; omega, by show (i : Int) + 2 < (g1.1 : Int); omega⟩
  apply And.intro
  · exact ⟨by show (0 : Int) ≤ (i : Int) + 3; omega, by show (i : Int) + 3 < (g1.1 : Int); omega⟩
  have h2 := h2
  rw [← e1 ((i : Int) + 1).toNat] at h2
  rw [← e1 ((i : Int) + 2).toNat] at h2
  rw [← e1 ((i : Int) + 3).toNat] at h2
  refine z_C.imp h2 ?_
  rintro _ _ ⟨v', m2, g2, rfl, rfl, e3, h3⟩
  apply And.intro
  · intro _
    exact back m2 g2 h3
  · intro hb
    exact (z_nn e3 hb).elim
set_option maxRecDepth 100000 in
theorem l_case25 {I : z_M → z_g → Prop} {L : Nat} (hI : ∀ m g, I m g → g.1 = L) (hs : ∀ m g, I m g → ∀ j, z_ok (m 1001 j)) (hp : ∀ (m : z_M) (g : z_g) (a0 a1 a2 : Int), I m g → z_ok a0 → z_ok a1 → z_ok a2 → z_pI I 139 267 [.inl a0, .inl a1, .inl a2] m g) : z_case I L 25 := by
  intro m g i h hi back
  have e := hI m g h
  refine z_wp_T (cd := q_c296) (cs := [1064]) rfl 60 758 _ _ _ _ ?_
  apply And.intro
  · exact ⟨by show (0 : Int) ≤ (i : Int) + 1; omega, by show (i : Int) + 1 < (g.1 : Int); omega⟩
  apply And.intro
  · exact ⟨by show (0 : Int) ≤ (i : Int) + 2; omega, by show (i : Int) + 2 < (g.1 : Int); omega⟩
  apply And.intro
  · exact ⟨by show (0 : Int) ≤ (i : Int) + 3; omega, by show (i : Int) + 3 < (g.1 : Int); omega⟩
  refine z_C.imp (hp m g (m 1001 ((i : Int) + 1).toNat) (m 1001 ((i : Int) + 2).toNat) (m 1001 ((i : Int) + 3).toNat) h (hs m g h _) (hs m g h _) (hs m g h _)) ?_
  rintro _ _ ⟨v, m1, g1, rfl, rfl, e1, e2, h2⟩
  apply And.intro
  · exact ⟨by show (0 : Int) ≤ (i : Int) + 1; omega, by show (i : Int) + 1 < (g1.1 : Int); omega⟩
  apply And.intro
  · exact ⟨by show (0 : Int) ≤ (i : Int) + 2; omega, by show (i : Int) + 2 < (g1.1 : Int); omega⟩
  apply And.intro
  · exact ⟨by show (0 : Int) ≤ (i : Int) + 3; omega, by show (i : Int) + 3 < (g1.1 : Int); omega⟩
  have h2 := h2
  rw [← e1 ((i : Int) + 1).toNat] at h2
  rw [← e1 ((i : Int) + 2).toNat] at h2
  rw [← e1 ((i : Int) + 3).toNat] at h2
  refine z_C.imp h2 ?_
  rintro _ _ ⟨v', m2, g2, rfl, rfl, e3, h3⟩
  apply And.intro
  · intro _
    exact back m2 g2 h3
  · intro hb
    exact (z_nn e3 hb).elim
set_option maxRecDepth 100000 in
theorem l_case26 {I : z_M → z_g → Prop} {L : Nat} (hI : ∀ m g, I m g → g.1 = L) (hs : ∀ m g, I m g → ∀ j, z_ok (m 1001 j)) (hp : ∀ (m : z_M) (g : z_g) (a0 : Int), I m g → z_ok a0 → z_pI I 140 268 [.inl a0] m g) : z_case I L 26 := by
  intro m g i h hi back
  have e := hI m g h
  refine z_wp_T (cd := q_c296) (cs := [1064]) rfl 60 795 _ _ _ _ ?_
  apply And.intro
  · exact ⟨by show (0 : Int) ≤ (i : Int) + 1; omega, by show (i : Int) + 1 < (g.1 : Int); omega⟩
  refine z_C.imp (hp m g (m 1001 ((i : Int) + 1).toNat) h (hs m g h _)) ?_
  rintro _ _ ⟨v, m1, g1, rfl, rfl, e1, e2, h2⟩
  apply And.intro
  · exact ⟨by show (0 : Int) ≤ (i : Int) + 1; omega, by show (i : Int) + 1 < (g1.1 : Int); omega⟩
  have h2 := h2
  rw [← e1 ((i : Int) + 1).toNat] at h2
  refine z_C.imp h2 ?_
  rintro _ _ ⟨v', m2, g2, rfl, rfl, e3, h3⟩
  apply And.intro
  · intro _
    exact back m2 g2 h3
  · intro hb
    exact (z_nn e3 hb).elim
set_option maxRecDepth 100000 in
theorem l_case27 {I : z_M → z_g → Prop} {L : Nat} (hI : ∀ m g, I m g → g.1 = L) (hs : ∀ m g, I m g → ∀ j, z_ok (m 1001 j)) (hp : ∀ (m : z_M) (g : z_g), I m g → z_pI I 142 269 [] m g) : z_case I L 27 := by
  intro m g i h hi back
  have e := hI m g h
  refine z_wp_T (cd := q_c296) (cs := [1064]) rfl 60 812 _ _ _ _ ?_
  refine z_C.imp (hp m g h) ?_
  rintro _ _ ⟨v, m1, g1, rfl, rfl, e1, e2, h2⟩
  have h2 := h2
  refine z_C.imp h2 ?_
  rintro _ _ ⟨v', m2, g2, rfl, rfl, e3, h3⟩
  apply And.intro
  · intro _
    exact back m2 g2 h3
  · intro hb
    exact (z_nn e3 hb).elim
set_option maxRecDepth 100000 in
theorem l_case28 {I : z_M → z_g → Prop} {L : Nat} (hI : ∀ m g, I m g → g.1 = L) (hs : ∀ m g, I m g → ∀ j, z_ok (m 1001 j)) (hp : ∀ (m : z_M) (g : z_g) (a0 : Int), I m g → z_ok a0 → z_pI I 154 280 [.inl a0] m g) : z_case I L 28 := by
  intro m g i h hi back
  have e := hI m g h
  refine z_wp_T (cd := q_c296) (cs := [1064]) rfl 60 819 _ _ _ _ ?_
  apply And.intro
  · exact ⟨by show (0 : Int) ≤ (i : Int) + 1; omega, by show (i : Int) + 1 < (g.1 : Int); omega⟩
  refine z_C.imp (hp m g (m 1001 ((i : Int) + 1).toNat) h (hs m g h _)) ?_
  rintro _ _ ⟨v, m1, g1, rfl, rfl, e1, e2, h2⟩
  apply And.intro
  · exact ⟨by show (0 : Int) ≤ (i : Int) + 1; omega, by show (i : Int) + 1 < (g1.1 : Int); omega⟩
  have h2 := h2
  rw [← e1 ((i : Int) + 1).toNat] at h2
  refine z_C.imp h2 ?_
  rintro _ _ ⟨v', m2, g2, rfl, rfl, e3, h3⟩
  apply And.intro
  · intro _
    exact back m2 g2 h3
  · intro hb
    exact (z_nn e3 hb).elim
set_option maxRecDepth 100000 in
theorem l_case29 {I : z_M → z_g → Prop} {L : Nat} (hI : ∀ m g, I m g → g.1 = L) (hs : ∀ m g, I m g → ∀ j, z_ok (m 1001 j)) (hp : ∀ (m : z_M) (g : z_g) (a0 : Int), I m g → z_ok a0 → z_pI I 173 283 [.inl a0] m g) : z_case I L 29 := by
  intro m g i h hi back
  have e := hI m g h
  refine z_wp_T (cd := q_c296) (cs := [1064]) rfl 60 836 _ _ _ _ ?_
  apply And.intro
  · exact ⟨by show (0 : Int) ≤ (i : Int) + 1; omega, by show (i : Int) + 1 < (g.1 : Int); omega⟩
  refine z_C.imp (hp m g (m 1001 ((i : Int) + 1).toNat) h (hs m g h _)) ?_
  rintro _ _ ⟨v, m1, g1, rfl, rfl, e1, e2, h2⟩
  apply And.intro
  · exact ⟨by show (0 : Int) ≤ (i : Int) + 1; omega, by show (i : Int) + 1 < (g1.1 : Int); omega⟩
  have h2 := h2
  rw [← e1 ((i : Int) + 1).toNat] at h2
  refine z_C.imp h2 ?_
  rintro _ _ ⟨v', m2, g2, rfl, rfl, e3, h3⟩
  apply And.intro
  · intro _
    exact back m2 g2 h3
  · intro hb
    exact (z_nn e3 hb).elim
set_option maxRecDepth 100000 in
theorem l_case30 {I : z_M → z_g → Prop} {L : Nat} (hI : ∀ m g, I m g → g.1 = L) (hs : ∀ m g, I m g → ∀ j, z_ok (m 1001 j)) (hp : ∀ (m : z_M) (g : z_g), I m g → z_pI I 176 284 [] m g) : z_case I L 30 := by
  intro m g i h hi back
  have e := hI m g h
  refine z_wp_T (cd := q_c296) (cs := [1064]) rfl 60 853 _ _ _ _ ?_
  refine z_C.imp (hp m g h) ?_
  rintro _ _ ⟨v, m1, g1, rfl, rfl, e1, e2, h2⟩
  have h2 := h2
  refine z_C.imp h2 ?_
  rintro _ _ ⟨v', m2, g2, rfl, rfl, e3, h3⟩
  apply And.intro
  · intro _
    exact back m2 g2 h3
  · intro hb
    exact (z_nn e3 hb).elim
set_option maxRecDepth 100000 in
theorem l_case31 {I : z_M → z_g → Prop} {L : Nat} (hI : ∀ m g, I m g → g.1 = L) (hs : ∀ m g, I m g → ∀ j, z_ok (m 1001 j)) (hp : ∀ (m : z_M) (g : z_g) (a0 a1 : Int), I m g → z_ok a0 → z_ok a1 → z_pI I 177 286 [.inl a0, .inl a1] m g) : z_case I L 31 := by
  intro m g i h hi back
  have e := hI m g h
  refine z_wp_T (cd := q_c296) (cs := [1064]) rfl 60 860 _ _ _ _ ?_
  apply And.intro
  · exact ⟨by show (0 : Int) ≤ (i : Int) + 1; omega, by show (i : Int) + 1 < (g.1 : Int); omega⟩
  apply And.intro
  · exact ⟨by show (0 : Int) ≤ (i : Int) + 2; omega, by show (i : Int) + 2 < (g.1 : Int); omega⟩
  refine z_C.imp (hp m g (m 1001 ((i : Int) + 1).toNat) (m 1001 ((i : Int) + 2).toNat) h (hs m g h _) (hs m g h _)) ?_
  rintro _ _ ⟨v, m1, g1, rfl, rfl, e1, e2, h2⟩
  apply And.intro
  · exact ⟨by show (0 : Int) ≤ (i : Int) + 1; omega, by show (i : Int) + 1 < (g1.1 : Int); omega⟩
  apply And.intro
  · exact ⟨by show (0 : Int) ≤ (i : Int) + 2; omega, by show (i : Int) + 2 < (g1.1 : Int); omega⟩
  have h2 := h2
  rw [← e1 ((i : Int) + 1).toNat] at h2
  rw [← e1 ((i : Int) + 2).toNat] at h2
  refine z_C.imp h2 ?_
  rintro _ _ ⟨v', m2, g2, rfl, rfl, e3, h3⟩
  apply And.intro
  · intro _
    exact back m2 g2 h3
  · intro hb
    exact (z_nn e3 hb).elim
set_option maxRecDepth 100000 in
theorem l_case33 {I : z_M → z_g → Prop} {L : Nat} (hI : ∀ m g, I m g → g.1 = L) (hs : ∀ m g, I m g → ∀ j, z_ok (m 1001 j)) (hp : ∀ (m : z_M) (g : z_g) (a0 a1 : Int), I m g → z_ok a0 → z_ok a1 → z_pL I 181 288 [.inl a0, .inl a1] m g) : z_case I L 33 := by
  intro m g i h hi back
  have e := hI m g h
  refine z_wp_T (cd := q_c296) (cs := [1064]) rfl 60 948 _ _ _ _ ?_
  apply And.intro
  · exact ⟨by show (0 : Int) ≤ (i : Int) + 1; omega, by show (i : Int) + 1 < (g.1 : Int); omega⟩
  apply And.intro
  · exact ⟨by show (0 : Int) ≤ (i : Int) + 2; omega, by show (i : Int) + 2 < (g.1 : Int); omega⟩
  refine z_C.imp (hp m g (m 1001 ((i : Int) + 1).toNat) (m 1001 ((i : Int) + 2).toNat) h (hs m g h _) (hs m g h _)) ?_
  rintro _ _ ⟨v, m1, g1, rfl, rfl, e1, e2, h2⟩
  apply And.intro
  · exact ⟨by show (0 : Int) ≤ (i : Int) + 1; omega, by show (i : Int) + 1 < (g1.1 : Int); omega⟩
  apply And.intro
  · exact ⟨by show (0 : Int) ≤ (i : Int) + 2; omega, by show (i : Int) + 2 < (g1.1 : Int); omega⟩
  have h2 := h2
  rw [← e1 ((i : Int) + 1).toNat] at h2
  rw [← e1 ((i : Int) + 2).toNat] at h2
  refine z_C.imp h2 ?_
  rintro _ _ ⟨v', m2, g2, rfl, rfl, e3, h3⟩
  apply And.intro
  · intro _
    exact back m2 g2 h3
  · intro hb
    exact (z_lcn e3 hb).elim
set_option maxRecDepth 100000 in
theorem l_case34 {I : z_M → z_g → Prop} {L : Nat} (hI : ∀ m g, I m g → g.1 = L) (hs : ∀ m g, I m g → ∀ j, z_ok (m 1001 j)) (hp : ∀ (m : z_M) (g : z_g) (a0 a1 a2 a3 a4 : Int), I m g → z_ok a0 → z_ok a1 → z_ok a2 → z_ok a3 → z_ok a4 → z_pI I 182 289 [.inl a0, .inl a1, .inl a2, .inl a3, .inl a4] m g) : z_case I L 34 := by
  intro m g i h hi back
  have e := hI m g h
  refine z_wp_T (cd := q_c296) (cs := [1064]) rfl 60 976 _ _ _ _ ?_
  apply And.intro
  · exact ⟨by show (0 : Int) ≤ (i : Int) + 1; omega, by show (i : Int) + 1 < (g.1 : Int); omega⟩
  apply And.intro
  · exact ⟨by show (0 : Int) ≤ (i : Int) + 2; omega, by show (i : Int) + 2 < (g.1 : Int); omega⟩
  apply And.intro
  · exact ⟨by show (0 : Int) ≤ (i : Int) + 3; omega, by show (i : Int) + 3 < (g.1 : Int); omega⟩
  apply And.intro
  · exact ⟨by show (0 : Int) ≤ (i : Int) + 4; omega, by show (i : Int) + 4 < (g.1 : Int); omega⟩
  apply And.intro
  · exact ⟨by show (0 : Int) ≤ (i : Int) + 5; omega, by show (i : Int) + 5 < (g.1 : Int); omega⟩
  refine z_C.imp (hp m g (m 1001 ((i : Int) + 1).toNat) (m 1001 ((i : Int) + 2).toNat) (m 1001 ((i : Int) + 3).toNat) (m 1001 ((i : Int) + 4).toNat) (m 1001 ((i : Int) + 5).toNat) h (hs m g h _) (hs m g h _) (hs m g h _) (hs m g h _) (hs m g h _)) ?_
  rintro _ _ ⟨v, m1, g1, rfl, rfl, e1, e2, h2⟩
  apply And.intro
  · exact ⟨by show (0 : Int) ≤ (i : Int) + 1; omega, by show (i : Int) + 1 < (g1.1 : Int); omega⟩
  apply And.intro
  · exact ⟨by show (0 : Int) ≤ (i : Int) + 2; omega, by show (i : Int) + 2 < (g1.1 : Int); omega⟩
  apply And.intro
  · exact ⟨by show (0 : Int) ≤ (i : Int) + 3; omega, by show (i : Int) + 3 < (g1.1 : Int); omega⟩
  apply And.intro
  · exact ⟨by show (0 : Int) ≤ (i : Int) + 4; omega, by show (i : Int) + 4 < (g1.1 : Int); omega⟩
  apply And.intro
  · exact ⟨by show (0 : Int) ≤ (i : Int) + 5; omega, by show (i : Int) + 5 < (g1.1 : Int); omega⟩
  have h2 := h2
  rw [← e1 ((i : Int) + 1).toNat] at h2
  rw [← e1 ((i : Int) + 2).toNat] at h2
  rw [← e1 ((i : Int) + 3).toNat] at h2
  rw [← e1 ((i : Int) + 4).toNat] at h2
  rw [← e1 ((i : Int) + 5).toNat] at h2
  refine z_C.imp h2 ?_
  rintro _ _ ⟨v', m2, g2, rfl, rfl, e3, h3⟩
  apply And.intro
  · intro _
    exact back m2 g2 h3
  · intro hb
    exact (z_nn e3 hb).elim
set_option maxRecDepth 100000 in
theorem l_case35 {I : z_M → z_g → Prop} {L : Nat} (hI : ∀ m g, I m g → g.1 = L) (hs : ∀ m g, I m g → ∀ j, z_ok (m 1001 j)) (hp : ∀ (m : z_M) (g : z_g), I m g → z_pI I 183 290 [] m g) : z_case I L 35 := by
  intro m g i h hi back
  have e := hI m g h
  refine z_wp_T (cd := q_c296) (cs := [1064]) rfl 60 1033 _ _ _ _ ?_
  refine z_C.imp (hp m g h) ?_
  rintro _ _ ⟨v, m1, g1, rfl, rfl, e1, e2, h2⟩
  have h2 := h2
  refine z_C.imp h2 ?_
  rintro _ _ ⟨v', m2, g2, rfl, rfl, e3, h3⟩
  apply And.intro
  · intro _
    exact back m2 g2 h3
  · intro hb
    exact (z_nn e3 hb).elim
set_option maxRecDepth 100000 in
theorem l_case36 {I : z_M → z_g → Prop} {L : Nat} (hI : ∀ m g, I m g → g.1 = L) (hs : ∀ m g, I m g → ∀ j, z_ok (m 1001 j)) (hp : ∀ (m : z_M) (g : z_g), I m g → z_pI I 185 294 [] m g) : z_case I L 36 := by
  intro m g i h hi back
  have e := hI m g h
  refine z_wp_T (cd := q_c296) (cs := [1064]) rfl 60 1040 _ _ _ _ ?_
  refine z_C.imp (hp m g h) ?_
  rintro _ _ ⟨v, m1, g1, rfl, rfl, e1, e2, h2⟩
  have h2 := h2
  refine z_C.imp h2 ?_
  rintro _ _ ⟨v', m2, g2, rfl, rfl, e3, h3⟩
  apply And.intro
  · intro _
    exact back m2 g2 h3
  · intro hb
    exact (z_nn e3 hb).elim
set_option maxRecDepth 100000 in
theorem l_case37 {I : z_M → z_g → Prop} {L : Nat} (hI : ∀ m g, I m g → g.1 = L) (hs : ∀ m g, I m g → ∀ j, z_ok (m 1001 j)) (hp : ∀ (m : z_M) (g : z_g) (a0 : Int), I m g → z_ok a0 → z_pI I 186 295 [.inl a0] m g) : z_case I L 37 := by
  intro m g i h hi back
  have e := hI m g h
  refine z_wp_T (cd := q_c296) (cs := [1064]) rfl 60 1047 _ _ _ _ ?_
  apply And.intro
  · exact ⟨by show (0 : Int) ≤ (i : Int) + 1; omega, by show (i : Int) + 1 < (g.1 : Int); omega⟩
  refine z_C.imp (hp m g (m 1001 ((i : Int) + 1).toNat) h (hs m g h _)) ?_
  rintro _ _ ⟨v, m1, g1, rfl, rfl, e1, e2, h2⟩
  apply And.intro
  · exact ⟨by show (0 : Int) ≤ (i : Int) + 1; omega, by show (i : Int) + 1 < (g1.1 : Int); omega⟩
  have h2 := h2
  rw [← e1 ((i : Int) + 1).toNat] at h2
  refine z_C.imp h2 ?_
  rintro _ _ ⟨v', m2, g2, rfl, rfl, e3, h3⟩
  apply And.intro
  · intro _
    exact back m2 g2 h3
  · intro hb
    exact (z_nn e3 hb).elim
