/-! case 32, of its own -/
set_option maxRecDepth 100000 in
set_option maxHeartbeats 2000000 in
theorem l_case32 {I : z_M → z_g → Prop} {L : Nat} (hI : ∀ m g, I m g → g.1 = L) (hs : ∀ m g, I m g → ∀ j, z_ok (m 1001 j)) (hp : ∀ (m : z_M) (g : z_g) (a0 a1 a2 a3 : Int), I m g → z_ok a0 → z_ok a1 → z_pI I 180 287 [.inl a0, .inl a1, .inr (.inl (q_lbin 4 a2 a3))] m g) : z_case I L 32 := by
  intro m g i h hi back
  have e := hI m g h
  refine z_wp_T (cd := q_c296) (cs := [1064]) rfl 60 887 _ _ _ _ ?_
  apply And.intro
  · exact ⟨by show (0 : Int) ≤ (i : Int) + 1; omega, by show (i : Int) + 1 < (g.1 : Int); omega⟩
  apply And.intro
  · exact ⟨by show (0 : Int) ≤ (i : Int) + 2; omega, by show (i : Int) + 2 < (g.1 : Int); omega⟩
  apply And.intro
  · exact ⟨by show (0 : Int) ≤ (i : Int) + 3; omega, by show (i : Int) + 3 < (g.1 : Int); omega⟩
  apply And.intro
  · exact ⟨by show (0 : Int) ≤ (i : Int) + 4; omega, by show (i : Int) + 4 < (g.1 : Int); omega⟩
  refine z_C.imp (hp m g (m 1001 ((i : Int) + 1).toNat) (m 1001 ((i : Int) + 2).toNat) (q_lshl (q_w (m 1001 ((i : Int) + 3).toNat)) 32) (q_lbin 3 (q_w (m 1001 ((i : Int) + 4).toNat)) 4294967295) h (hs m g h _) (hs m g h _)) ?_
  rintro _ _ ⟨v, m1, g1, rfl, rfl, e1, e2, h2⟩
  apply And.intro
  · exact ⟨by show (0 : Int) ≤ (i : Int) + 1; omega, by show (i : Int) + 1 < (g1.1 : Int); omega⟩
  apply And.intro
  · exact ⟨by show (0 : Int) ≤ (i : Int) + 2; omega, by show (i : Int) + 2 < (g1.1 : Int); omega⟩
  apply And.intro
  · exact ⟨by show (0 : Int) ≤ (i : Int) + 3; omega, by show (i : Int) + 3 < (g1.1 : Int); omega⟩
  apply And.intro
  · exact ⟨by show (0 : Int) ≤ (i : Int) + 4; omega, by show (i : Int) + 4 < (g1.1 : Int); omega⟩
  have h2 := h2
  rw [← e1 ((i : Int) + 1).toNat] at h2
  rw [← e1 ((i : Int) + 2).toNat] at h2
  rw [← e1 ((i : Int) + 3).toNat] at h2
  rw [← e1 ((i : Int) + 4).toNat] at h2
  refine z_C.imp h2 ?_
  rintro _ _ ⟨v', m2, g2, rfl, rfl, e3, h3⟩
  apply And.intro
  · intro _
    exact back m2 g2 h3
  · intro hb
    exact (z_nn e3 hb).elim
