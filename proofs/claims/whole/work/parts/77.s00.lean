/-! segments of the methods (written by wip/whole/segall.py) -/
theorem y_15P : q_P 15 = (q_c15, 3) := rfl
theorem y_15 {m : z_M} {g : z_g} {Q : q_V → q_S → Prop} {a1 : Int} (h :
    z_ok a1 ∧
    (a1 < (0 : Int) →
      Q (.inl (-1 : Int)) (z_st m g)) ∧
    ((0 : Int) ≤ a1 →
      z_ok2 a1 (9 : Int) ∧
      (a1 < (9 : Int) →
        z_C 16 [.inr (.inr 109), .inl (0 : Int), .inl (m 1 0), .inl (0 : Int), .inl (0 : Int)] (z_st m g) (fun v S => z_T 15 19 [.inr (.inr 0), .inl a1, .inl (m 1 0)] (q_push v []) S Q)) ∧
      ((9 : Int) ≤ a1 →
        Q (.inl (-1 : Int)) (z_st m g)))) :
    z_C 15 [.inr (.inr 0), .inl a1] (z_st m g) Q := y_C_wp (cs := [19]) (ng := []) (sy := []) (n := 300) y_15P h
theorem y_15_19 {m : z_M} {g : z_g} {Q : q_V → q_S → Prop} {a1 a2 : Int} (h :
    Q (.inl a2) (z_st (q_upd m 1 0 a1) g)) :
    z_T 15 19 [.inr (.inr 0), .inl a1, .inl a2] [] (z_st m g) Q := y_wp_T (cd := q_c15) (cs := [19]) (ng := []) (sy := []) rfl 300 19 _ _ _ _ h
theorem y_16P : q_P 16 = (q_c16, 5) := rfl
theorem y_16 {m : z_M} {g : z_g} {Q : q_V → q_S → Prop} {a1 a2 a3 a4 : Int} (h :
    z_ok2 (m 109 0) (8 : Int) ∧
    ((m 109 0) < (8 : Int) →
      z_T 16 6 [.inr (.inr 109), .inl a1, .inl a2, .inl a3, .inl a4] [] (z_st m g) Q) ∧
    ((8 : Int) ≤ (m 109 0) →
      z_C 17 [.inr (.inr 109)] (z_st m g) (fun v S => z_T 16 6 [.inr (.inr 109), .inl a1, .inl a2, .inl a3, .inl a4] (q_push v []) S Q))) :
    z_C 16 [.inr (.inr 109), .inl a1, .inl a2, .inl a3, .inl a4] (z_st m g) Q := y_C_wp (cs := [6]) (ng := []) (sy := []) (n := 300) y_16P h
theorem y_16_6 {m : z_M} {g : z_g} {Q : q_V → q_S → Prop} {a1 a2 a3 a4 : Int} (h :
    z_in (m 109 0) 8 ∧
    z_in (m 109 0) 8 ∧
    z_in (m 109 0) 8 ∧
    z_in (m 109 0) 8 ∧
    Q q_dead (z_st (q_upd (q_upd (q_upd (q_upd (q_upd m 110 ((m 109 0).toNat) a1) 111 ((m 109 0).toNat) a2) 112 ((m 109 0).toNat) a3) 113 ((m 109 0).toNat) a4) 109 0 ((m 109 0) + (1 : Int))) g)) :
    z_T 16 6 [.inr (.inr 109), .inl a1, .inl a2, .inl a3, .inl a4] [] (z_st m g) Q := y_wp_T (cd := q_c16) (cs := [6]) (ng := []) (sy := []) rfl 300 6 _ _ _ _ h
theorem y_17P : q_P 17 = (q_c17, 1) := rfl
theorem y_17 {m : z_M} {g : z_g} {Q : q_V → q_S → Prop} (h :
    (0 ≤ (7 : Int) ∧ 0 ≤ (1 : Int) ∧ 0 ≤ (0 : Int) ∧ (1 : Int) + (7 : Int) ≤ ((8 : Nat) : Int) ∧ (0 : Int) + (7 : Int) ≤ ((8 : Nat) : Int)) ∧
    (0 ≤ (7 : Int) ∧ 0 ≤ (1 : Int) ∧ 0 ≤ (0 : Int) ∧ (1 : Int) + (7 : Int) ≤ ((8 : Nat) : Int) ∧ (0 : Int) + (7 : Int) ≤ ((8 : Nat) : Int)) ∧
    (0 ≤ (7 : Int) ∧ 0 ≤ (1 : Int) ∧ 0 ≤ (0 : Int) ∧ (1 : Int) + (7 : Int) ≤ ((8 : Nat) : Int) ∧ (0 : Int) + (7 : Int) ≤ ((8 : Nat) : Int)) ∧
    (0 ≤ (7 : Int) ∧ 0 ≤ (1 : Int) ∧ 0 ≤ (0 : Int) ∧ (1 : Int) + (7 : Int) ≤ ((8 : Nat) : Int) ∧ (0 : Int) + (7 : Int) ≤ ((8 : Nat) : Int)) ∧
    Q q_dead (z_st (q_upd (q_cpy (q_cpy (q_cpy (q_cpy m 110 (((1 : Int)).toNat) 110 (((0 : Int)).toNat) (((7 : Int)).toNat)) 111 (((1 : Int)).toNat) 111 (((0 : Int)).toNat) (((7 : Int)).toNat)) 112 (((1 : Int)).toNat) 112 (((0 : Int)).toNat) (((7 : Int)).toNat)) 113 (((1 : Int)).toNat) 113 (((0 : Int)).toNat) (((7 : Int)).toNat)) 109 0 (7 : Int)) g)) :
    z_C 17 [.inr (.inr 109)] (z_st m g) Q := y_C_wp (cs := []) (ng := []) (sy := []) (n := 300) y_17P h
theorem y_18P : q_P 18 = (q_c18, 2) := rfl
theorem y_18 {m : z_M} {g : z_g} {Q : q_V → q_S → Prop} {a1 : Int} (h :
    z_ok a1 ∧
    (a1 < (0 : Int) →
      Q (.inl (-2 : Int)) (z_st m g)) ∧
    ((0 : Int) ≤ a1 →
      z_ok (q_bin 7 a1 (13 : Int)) ∧
      (¬ (q_bin 7 a1 (13 : Int)) = (0 : Int) →
        Q (.inl (-2 : Int)) (z_st m g)) ∧
      ((q_bin 7 a1 (13 : Int)) = (0 : Int) →
        z_C 19 [.inl a1] (z_st m g) (fun v S => z_T 18 8 [.inr (.inr 0), .inl a1] (q_push v []) S Q)))) :
    z_C 18 [.inr (.inr 0), .inl a1] (z_st m g) Q := y_C_wp (cs := [8, 9, 22, 26]) (ng := []) (sy := []) (n := 300) y_18P h
theorem y_18_8 {m : z_M} {g : z_g} {Q : q_V → q_S → Prop} {a1 s0 : Int} (h :
    z_C 20 [.inl s0] (z_st m g) (fun v S => z_T 18 9 [.inr (.inr 0), .inl a1] (q_push v []) S Q)) :
    z_T 18 8 [.inr (.inr 0), .inl a1] [.inl s0] (z_st m g) Q := y_wp_T (cd := q_c18) (cs := [8, 9, 22, 26]) (ng := []) (sy := []) rfl 300 8 _ _ _ _ h
theorem y_18_9 {m : z_M} {g : z_g} {Q : q_V → q_S → Prop} {a1 s0 : Int} (h :
    z_ok s0 ∧
    (¬ s0 = (0 : Int) →
      z_ok2 (m 1 1) (6 : Int) ∧
      ((m 1 1) < (6 : Int) →
        z_C 21 [.inr (.inr 109)] (z_st m g) (fun v S => z_T 18 22 [.inr (.inr 0), .inl a1] (q_push v []) S Q)) ∧
      ((6 : Int) ≤ (m 1 1) →
        Q (.inl (-4 : Int)) (z_st m g))) ∧
    (s0 = (0 : Int) →
      Q (.inl (-2 : Int)) (z_st m g))) :
    z_T 18 9 [.inr (.inr 0), .inl a1] [.inl s0] (z_st m g) Q := y_wp_T (cd := q_c18) (cs := [8, 9, 22, 26]) (ng := []) (sy := []) rfl 300 9 _ _ _ _ h
theorem y_18_22 {m : z_M} {g : z_g} {Q : q_V → q_S → Prop} {a1 : Int} (h :
    z_C 22 [.inr (.inr 1), .inl a1] (z_st m g) (fun v S => z_T 18 26 [.inr (.inr 0), .inl a1] (q_push v []) S Q)) :
    z_T 18 22 [.inr (.inr 0), .inl a1] [] (z_st m g) Q := y_wp_T (cd := q_c18) (cs := [8, 9, 22, 26]) (ng := []) (sy := []) rfl 300 22 _ _ _ _ h
theorem y_18_26 {m : z_M} {g : z_g} {Q : q_V → q_S → Prop} {a1 s0 : Int} (h :
    Q (.inl s0) (z_st m g)) :
    z_T 18 26 [.inr (.inr 0), .inl a1] [.inl s0] (z_st m g) Q := y_wp_T (cd := q_c18) (cs := [8, 9, 22, 26]) (ng := []) (sy := []) rfl 300 26 _ _ _ _ h
theorem y_19P : q_P 19 = (q_c19, 1) := rfl
theorem y_19 {m : z_M} {g : z_g} {Q : q_V → q_S → Prop} {a0 : Int} (h :
    Q (.inl (q_bin 3 (((q_bin 3 (((q_bin 3 (a0 - (q_bin 3 (q_bin 8 a0 (1 : Int)) (1431655765 : Int))) (858993459 : Int)) + (q_bin 3 (q_bin 8 (a0 - (q_bin 3 (q_bin 8 a0 (1 : Int)) (1431655765 : Int))) (2 : Int)) (858993459 : Int))) + (q_bin 8 ((q_bin 3 (a0 - (q_bin 3 (q_bin 8 a0 (1 : Int)) (1431655765 : Int))) (858993459 : Int)) + (q_bin 3 (q_bin 8 (a0 - (q_bin 3 (q_bin 8 a0 (1 : Int)) (1431655765 : Int))) (2 : Int)) (858993459 : Int))) (4 : Int))) (252645135 : Int)) + (q_bin 8 (q_bin 3 (((q_bin 3 (a0 - (q_bin 3 (q_bin 8 a0 (1 : Int)) (1431655765 : Int))) (858993459 : Int)) + (q_bin 3 (q_bin 8 (a0 - (q_bin 3 (q_bin 8 a0 (1 : Int)) (1431655765 : Int))) (2 : Int)) (858993459 : Int))) + (q_bin 8 ((q_bin 3 (a0 - (q_bin 3 (q_bin 8 a0 (1 : Int)) (1431655765 : Int))) (858993459 : Int)) + (q_bin 3 (q_bin 8 (a0 - (q_bin 3 (q_bin 8 a0 (1 : Int)) (1431655765 : Int))) (2 : Int)) (858993459 : Int))) (4 : Int))) (252645135 : Int)) (8 : Int))) + (q_bin 8 ((q_bin 3 (((q_bin 3 (a0 - (q_bin 3 (q_bin 8 a0 (1 : Int)) (1431655765 : Int))) (858993459 : Int)) + (q_bin 3 (q_bin 8 (a0 - (q_bin 3 (q_bin 8 a0 (1 : Int)) (1431655765 : Int))) (2 : Int)) (858993459 : Int))) + (q_bin 8 ((q_bin 3 (a0 - (q_bin 3 (q_bin 8 a0 (1 : Int)) (1431655765 : Int))) (858993459 : Int)) + (q_bin 3 (q_bin 8 (a0 - (q_bin 3 (q_bin 8 a0 (1 : Int)) (1431655765 : Int))) (2 : Int)) (858993459 : Int))) (4 : Int))) (252645135 : Int)) + (q_bin 8 (q_bin 3 (((q_bin 3 (a0 - (q_bin 3 (q_bin 8 a0 (1 : Int)) (1431655765 : Int))) (858993459 : Int)) + (q_bin 3 (q_bin 8 (a0 - (q_bin 3 (q_bin 8 a0 (1 : Int)) (1431655765 : Int))) (2 : Int)) (858993459 : Int))) + (q_bin 8 ((q_bin 3 (a0 - (q_bin 3 (q_bin 8 a0 (1 : Int)) (1431655765 : Int))) (858993459 : Int)) + (q_bin 3 (q_bin 8 (a0 - (q_bin 3 (q_bin 8 a0 (1 : Int)) (1431655765 : Int))) (2 : Int)) (858993459 : Int))) (4 : Int))) (252645135 : Int)) (8 : Int))) (16 : Int))) (63 : Int))) (z_st m g)) :
    z_C 19 [.inl a0] (z_st m g) Q := y_C_wp (cs := []) (ng := []) (sy := []) (n := 300) y_19P h
theorem y_20P : q_P 20 = (q_c20, 1) := rfl
theorem y_20 {m : z_M} {g : z_g} {Q : q_V → q_S → Prop} {a0 : Int} (h :
    z_ok2 a0 (2 : Int) ∧
    (a0 < (2 : Int) →
      Q (.inl (0 : Int)) (z_st m g)) ∧
    ((2 : Int) ≤ a0 →
      z_ok2 a0 (6 : Int) ∧
      ((6 : Int) < a0 →
        Q (.inl (0 : Int)) (z_st m g)) ∧
      (a0 ≤ (6 : Int) →
        Q (.inl (1 : Int)) (z_st m g)))) :
    z_C 20 [.inl a0] (z_st m g) Q := y_C_wp (cs := []) (ng := []) (sy := []) (n := 300) y_20P h
theorem y_21P : q_P 21 = (q_c21, 1) := rfl
theorem y_21 {m : z_M} {g : z_g} {Q : q_V → q_S → Prop} (h :
    Q q_dead (z_st (q_upd m 109 0 (0 : Int)) g)) :
    z_C 21 [.inr (.inr 109)] (z_st m g) Q := y_C_wp (cs := []) (ng := []) (sy := []) (n := 300) y_21P h
theorem y_22P : q_P 22 = (q_c22, 2) := rfl
theorem y_22 {m : z_M} {g : z_g} {Q : q_V → q_S → Prop} {a1 : Int} (h :
    z_ok2 (m 1 1) (6 : Int) ∧
    ((m 1 1) < (6 : Int) →
      z_in (m 1 1) 6 ∧
      Q (.inl (((m 1 1) + (1 : Int)) - (1 : Int))) (z_st (q_upd (q_upd m 2 ((m 1 1).toNat) a1) 1 1 ((m 1 1) + (1 : Int))) g)) ∧
    ((6 : Int) ≤ (m 1 1) →
      Q (.inl (-4 : Int)) (z_st m g))) :
    z_C 22 [.inr (.inr 1), .inl a1] (z_st m g) Q := y_C_wp (cs := []) (ng := []) (sy := []) (n := 300) y_22P h
theorem y_23P : q_P 23 = (q_c23, 3) := rfl
theorem y_23 {m : z_M} {g : z_g} {Q : q_V → q_S → Prop} {a1 a2 : Int} (h :
    z_C 24 [.inr (.inr 0), .inl a1] (z_st m g) (fun v S => z_T 23 3 [.inr (.inr 0), .inl a1, .inl a2] (q_push v []) S Q)) :
    z_C 23 [.inr (.inr 0), .inl a1, .inl a2] (z_st m g) Q := y_C_wp (cs := [3, 14, 29, 33, 37, 41, 45]) (ng := []) (sy := []) (n := 300) y_23P h
theorem y_23_3 {m : z_M} {g : z_g} {Q : q_V → q_S → Prop} {a1 a2 s0 : Int} (h :
    z_ok s0 ∧
    (¬ s0 = (0 : Int) →
      z_in a1 6 ∧
      z_C 25 [.inr (.inr 63), .inl (m 2 ((a1).toNat))] (z_st m g) (fun v S => z_T 23 14 [.inr (.inr 0), .inl a1, .inl a2] (q_push v []) S Q)) ∧
    (s0 = (0 : Int) →
      Q (.inl (-1 : Int)) (z_st m g))) :
    z_T 23 3 [.inr (.inr 0), .inl a1, .inl a2] [.inl s0] (z_st m g) Q := y_wp_T (cd := q_c23) (cs := [3, 14, 29, 33, 37, 41, 45]) (ng := []) (sy := []) rfl 300 3 _ _ _ _ h
theorem y_23_14 {m : z_M} {g : z_g} {Q : q_V → q_S → Prop} {a1 a2 : Int} (h :
    z_ok a2 ∧
    (a2 = (0 : Int) → z_in a1 6 ∧
      Q (.inl (m 2 ((a1).toNat))) (z_st m g)) ∧
    (¬ a2 = (0 : Int) → (a2 = (1 : Int) → Q (.inl (m 63 1)) (z_st m g)) ∧
    (¬ a2 = (1 : Int) → (a2 = (2 : Int) → z_C 26 [.inr (.inr 63)] (z_st m g) (fun v S => z_T 23 29 [.inr (.inr 0), .inl a1, .inl a2] (q_push v []) S Q)) ∧
    (¬ a2 = (2 : Int) → (a2 = (3 : Int) → z_C 30 [.inr (.inr 63)] (z_st m g) (fun v S => z_T 23 33 [.inr (.inr 0), .inl a1, .inl a2] (q_push v []) S Q)) ∧
    (¬ a2 = (3 : Int) → (a2 = (4 : Int) → z_C 32 [.inr (.inr 63)] (z_st m g) (fun v S => z_T 23 37 [.inr (.inr 0), .inl a1, .inl a2] (q_push v []) S Q)) ∧
    (¬ a2 = (4 : Int) → (a2 = (5 : Int) → z_C 33 [.inr (.inr 63)] (z_st m g) (fun v S => z_T 23 41 [.inr (.inr 0), .inl a1, .inl a2] (q_push v []) S Q)) ∧
    (¬ a2 = (5 : Int) → (a2 = (6 : Int) → z_C 34 [.inr (.inr 63)] (z_st m g) (fun v S => z_T 23 45 [.inr (.inr 0), .inl a1, .inl a2] (q_push v []) S Q)) ∧
    (¬ a2 = (6 : Int) → Q (.inl (-1 : Int)) (z_st m g))))))))) :
    z_T 23 14 [.inr (.inr 0), .inl a1, .inl a2] [] (z_st m g) Q := y_wp_T (cd := q_c23) (cs := [3, 14, 29, 33, 37, 41, 45]) (ng := []) (sy := []) rfl 300 14 _ _ _ _ h
theorem y_23_29 {m : z_M} {g : z_g} {Q : q_V → q_S → Prop} {a1 a2 s0 : Int} (h :
    Q (.inl s0) (z_st m g)) :
    z_T 23 29 [.inr (.inr 0), .inl a1, .inl a2] [.inl s0] (z_st m g) Q := y_wp_T (cd := q_c23) (cs := [3, 14, 29, 33, 37, 41, 45]) (ng := []) (sy := []) rfl 300 29 _ _ _ _ h
theorem y_23_33 {m : z_M} {g : z_g} {Q : q_V → q_S → Prop} {a1 a2 s0 : Int} (h :
    Q (.inl s0) (z_st m g)) :
    z_T 23 33 [.inr (.inr 0), .inl a1, .inl a2] [.inl s0] (z_st m g) Q := y_wp_T (cd := q_c23) (cs := [3, 14, 29, 33, 37, 41, 45]) (ng := []) (sy := []) rfl 300 33 _ _ _ _ h
theorem y_23_37 {m : z_M} {g : z_g} {Q : q_V → q_S → Prop} {a1 a2 s0 : Int} (h :
    Q (.inl s0) (z_st m g)) :
    z_T 23 37 [.inr (.inr 0), .inl a1, .inl a2] [.inl s0] (z_st m g) Q := y_wp_T (cd := q_c23) (cs := [3, 14, 29, 33, 37, 41, 45]) (ng := []) (sy := []) rfl 300 37 _ _ _ _ h
theorem y_23_41 {m : z_M} {g : z_g} {Q : q_V → q_S → Prop} {a1 a2 s0 : Int} (h :
    Q (.inl s0) (z_st m g)) :
    z_T 23 41 [.inr (.inr 0), .inl a1, .inl a2] [.inl s0] (z_st m g) Q := y_wp_T (cd := q_c23) (cs := [3, 14, 29, 33, 37, 41, 45]) (ng := []) (sy := []) rfl 300 41 _ _ _ _ h
theorem y_23_45 {m : z_M} {g : z_g} {Q : q_V → q_S → Prop} {a1 a2 s0 : Int} (h :
    Q (.inl s0) (z_st m g)) :
    z_T 23 45 [.inr (.inr 0), .inl a1, .inl a2] [.inl s0] (z_st m g) Q := y_wp_T (cd := q_c23) (cs := [3, 14, 29, 33, 37, 41, 45]) (ng := []) (sy := []) rfl 300 45 _ _ _ _ h
theorem y_24P : q_P 24 = (q_c24, 2) := rfl
theorem y_24 {m : z_M} {g : z_g} {Q : q_V → q_S → Prop} {a1 : Int} (h :
    z_ok a1 ∧
    (a1 < (0 : Int) →
      Q (.inl (0 : Int)) (z_st m g)) ∧
    ((0 : Int) ≤ a1 →
      z_ok2 a1 (m 1 1) ∧
      ((m 1 1) ≤ a1 →
        Q (.inl (0 : Int)) (z_st m g)) ∧
      (a1 < (m 1 1) →
        Q (.inl (1 : Int)) (z_st m g)))) :
    z_C 24 [.inr (.inr 0), .inl a1] (z_st m g) Q := y_C_wp (cs := []) (ng := []) (sy := []) (n := 300) y_24P h
theorem y_25aP : q_P 25 = (q_c25, 3) := rfl
theorem y_25a {m : z_M} {g : z_g} {Q : q_V → q_S → Prop} {a1 : Int} (h :
    z_T 25 5 [.inr (.inr 63), .inl a1, .inl (0 : Int)] [] (z_st (q_upd m 63 1 (0 : Int)) g) Q) :
    z_C 25 [.inr (.inr 63), .inl a1] (z_st m g) Q := y_C_wp (cs := [5]) (ng := []) (sy := []) (n := 300) y_25aP h
theorem y_25a_5 {m : z_M} {g : z_g} {Q : q_V → q_S → Prop} {a1 a2 : Int} (h :
    z_ok2 a2 (12 : Int) ∧
    ((12 : Int) < a2 →
      Q q_dead (z_st m g)) ∧
    (a2 ≤ (12 : Int) →
      z_ok2 (q_bin 3 (q_bin 7 a1 a2) (1 : Int)) (1 : Int) ∧
      (¬ (q_bin 3 (q_bin 7 a1 a2) (1 : Int)) = (1 : Int) →
        z_T 25 5 [.inr (.inr 63), .inl a1, .inl (a2 + (1 : Int))] [] (z_st m g) Q) ∧
      ((q_bin 3 (q_bin 7 a1 a2) (1 : Int)) = (1 : Int) →
        z_ok2 (m 63 1) (6 : Int) ∧
        ((6 : Int) ≤ (m 63 1) →
          z_T 25 5 [.inr (.inr 63), .inl a1, .inl (a2 + (1 : Int))] [] (z_st m g) Q) ∧
        ((m 63 1) < (6 : Int) →
          z_in (m 63 1) 6 ∧
          z_T 25 5 [.inr (.inr 63), .inl a1, .inl (a2 + (1 : Int))] [] (z_st (q_upd (q_upd m 64 ((m 63 1).toNat) a2) 63 1 ((m 63 1) + (1 : Int))) g) Q)))) :
    z_T 25 5 [.inr (.inr 63), .inl a1, .inl a2] [] (z_st m g) Q := y_wp_T (cd := q_c25) (cs := [5]) (ng := []) (sy := []) rfl 300 5 _ _ _ _ h
theorem y_25bP : q_P 25 = (q_c25, 3) := rfl
theorem y_25b {m : z_M} {g : z_g} {Q : q_V → q_S → Prop} {a1 : Int} (h :
    z_T 25 5 [.inr (.inr 66), .inl a1, .inl (0 : Int)] [] (z_st (q_upd m 66 1 (0 : Int)) g) Q) :
    z_C 25 [.inr (.inr 66), .inl a1] (z_st m g) Q := y_C_wp (cs := [5]) (ng := []) (sy := []) (n := 300) y_25bP h
theorem y_25b_5 {m : z_M} {g : z_g} {Q : q_V → q_S → Prop} {a1 a2 : Int} (h :
    z_ok2 a2 (12 : Int) ∧
    ((12 : Int) < a2 →
      Q q_dead (z_st m g)) ∧
    (a2 ≤ (12 : Int) →
      z_ok2 (q_bin 3 (q_bin 7 a1 a2) (1 : Int)) (1 : Int) ∧
      (¬ (q_bin 3 (q_bin 7 a1 a2) (1 : Int)) = (1 : Int) →
        z_T 25 5 [.inr (.inr 66), .inl a1, .inl (a2 + (1 : Int))] [] (z_st m g) Q) ∧
      ((q_bin 3 (q_bin 7 a1 a2) (1 : Int)) = (1 : Int) →
        z_ok2 (m 66 1) (6 : Int) ∧
        ((6 : Int) ≤ (m 66 1) →
          z_T 25 5 [.inr (.inr 66), .inl a1, .inl (a2 + (1 : Int))] [] (z_st m g) Q) ∧
        ((m 66 1) < (6 : Int) →
          z_in (m 66 1) 6 ∧
          z_T 25 5 [.inr (.inr 66), .inl a1, .inl (a2 + (1 : Int))] [] (z_st (q_upd (q_upd m 67 ((m 66 1).toNat) a2) 66 1 ((m 66 1) + (1 : Int))) g) Q)))) :
    z_T 25 5 [.inr (.inr 66), .inl a1, .inl a2] [] (z_st m g) Q := y_wp_T (cd := q_c25) (cs := [5]) (ng := []) (sy := []) rfl 300 5 _ _ _ _ h
theorem y_26aP : q_P 26 = (q_c26, 1) := rfl
theorem y_26a {m : z_M} {g : z_g} {Q : q_V → q_S → Prop} (h :
    z_C 27 [.inr (.inr 63)] (z_st m g) (fun v S => z_T 26 2 [.inr (.inr 63)] (q_push v []) S Q)) :
    z_C 26 [.inr (.inr 63)] (z_st m g) Q := y_C_wp (cs := [2, 4]) (ng := []) (sy := []) (n := 300) y_26aP h
theorem y_26a_2 {m : z_M} {g : z_g} {Q : q_V → q_S → Prop} {s0 : Int} (h :
    z_C 29 [.inr (.inr 63)] (z_st m g) (fun v S => z_T 26 4 [.inr (.inr 63)] (q_push v [.inl s0]) S Q)) :
    z_T 26 2 [.inr (.inr 63)] [.inl s0] (z_st m g) Q := y_wp_T (cd := q_c26) (cs := [2, 4]) (ng := []) (sy := []) rfl 300 2 _ _ _ _ h
theorem y_26a_4 {m : z_M} {g : z_g} {Q : q_V → q_S → Prop} {s0 s1 : Int} (h :
    Q (.inl (s1 - s0)) (z_st m g)) :
    z_T 26 4 [.inr (.inr 63)] [.inl s0, .inl s1] (z_st m g) Q := y_wp_T (cd := q_c26) (cs := [2, 4]) (ng := []) (sy := []) rfl 300 4 _ _ _ _ h
theorem y_26bP : q_P 26 = (q_c26, 1) := rfl
theorem y_26b {m : z_M} {g : z_g} {Q : q_V → q_S → Prop} (h :
    z_C 27 [.inr (.inr 66)] (z_st m g) (fun v S => z_T 26 2 [.inr (.inr 66)] (q_push v []) S Q)) :
    z_C 26 [.inr (.inr 66)] (z_st m g) Q := y_C_wp (cs := [2, 4]) (ng := []) (sy := []) (n := 300) y_26bP h
theorem y_26b_2 {m : z_M} {g : z_g} {Q : q_V → q_S → Prop} {s0 : Int} (h :
    z_C 29 [.inr (.inr 66)] (z_st m g) (fun v S => z_T 26 4 [.inr (.inr 66)] (q_push v [.inl s0]) S Q)) :
    z_T 26 2 [.inr (.inr 66)] [.inl s0] (z_st m g) Q := y_wp_T (cd := q_c26) (cs := [2, 4]) (ng := []) (sy := []) rfl 300 2 _ _ _ _ h
theorem y_26b_4 {m : z_M} {g : z_g} {Q : q_V → q_S → Prop} {s0 s1 : Int} (h :
    Q (.inl (s1 - s0)) (z_st m g)) :
    z_T 26 4 [.inr (.inr 66)] [.inl s0, .inl s1] (z_st m g) Q := y_wp_T (cd := q_c26) (cs := [2, 4]) (ng := []) (sy := []) rfl 300 4 _ _ _ _ h
theorem y_27aP : q_P 27 = (q_c27, 1) := rfl
theorem y_27a {m : z_M} {g : z_g} {Q : q_V → q_S → Prop} (h :
    z_C 28 [.inr (.inr 63), .inl ((m 63 1) - (1 : Int))] (z_st m g) (fun v S => z_T 27 6 [.inr (.inr 63)] (q_push v []) S Q)) :
    z_C 27 [.inr (.inr 63)] (z_st m g) Q := y_C_wp (cs := [6]) (ng := []) (sy := []) (n := 300) y_27aP h
theorem y_27a_6 {m : z_M} {g : z_g} {Q : q_V → q_S → Prop} {s0 : Int} (h :
    Q (.inl s0) (z_st m g)) :
    z_T 27 6 [.inr (.inr 63)] [.inl s0] (z_st m g) Q := y_wp_T (cd := q_c27) (cs := [6]) (ng := []) (sy := []) rfl 300 6 _ _ _ _ h
theorem y_27bP : q_P 27 = (q_c27, 1) := rfl
theorem y_27b {m : z_M} {g : z_g} {Q : q_V → q_S → Prop} (h :
    z_C 28 [.inr (.inr 66), .inl ((m 66 1) - (1 : Int))] (z_st m g) (fun v S => z_T 27 6 [.inr (.inr 66)] (q_push v []) S Q)) :
    z_C 27 [.inr (.inr 66)] (z_st m g) Q := y_C_wp (cs := [6]) (ng := []) (sy := []) (n := 300) y_27bP h
theorem y_27b_6 {m : z_M} {g : z_g} {Q : q_V → q_S → Prop} {s0 : Int} (h :
    Q (.inl s0) (z_st m g)) :
    z_T 27 6 [.inr (.inr 66)] [.inl s0] (z_st m g) Q := y_wp_T (cd := q_c27) (cs := [6]) (ng := []) (sy := []) rfl 300 6 _ _ _ _ h
theorem y_28aP : q_P 28 = (q_c28, 2) := rfl
theorem y_28a {m : z_M} {g : z_g} {Q : q_V → q_S → Prop} {a1 : Int} (h :
    z_ok a1 ∧
    (a1 < (0 : Int) →
      Q (.inl (0 : Int)) (z_st m g)) ∧
    ((0 : Int) ≤ a1 →
      z_ok2 a1 (m 63 1) ∧
      (a1 < (m 63 1) →
        z_in a1 6 ∧
        Q (.inl (m 64 ((a1).toNat))) (z_st m g)) ∧
      ((m 63 1) ≤ a1 →
        Q (.inl (0 : Int)) (z_st m g)))) :
    z_C 28 [.inr (.inr 63), .inl a1] (z_st m g) Q := y_C_wp (cs := []) (ng := []) (sy := []) (n := 300) y_28aP h
theorem y_28bP : q_P 28 = (q_c28, 2) := rfl
theorem y_28b {m : z_M} {g : z_g} {Q : q_V → q_S → Prop} {a1 : Int} (h :
    z_ok a1 ∧
    (a1 < (0 : Int) →
      Q (.inl (0 : Int)) (z_st m g)) ∧
    ((0 : Int) ≤ a1 →
      z_ok2 a1 (m 66 1) ∧
      (a1 < (m 66 1) →
        z_in a1 6 ∧
        Q (.inl (m 67 ((a1).toNat))) (z_st m g)) ∧
      ((m 66 1) ≤ a1 →
        Q (.inl (0 : Int)) (z_st m g)))) :
    z_C 28 [.inr (.inr 66), .inl a1] (z_st m g) Q := y_C_wp (cs := []) (ng := []) (sy := []) (n := 300) y_28bP h
theorem y_29aP : q_P 29 = (q_c29, 1) := rfl
theorem y_29a {m : z_M} {g : z_g} {Q : q_V → q_S → Prop} (h :
    z_C 28 [.inr (.inr 63), .inl (0 : Int)] (z_st m g) (fun v S => z_T 29 3 [.inr (.inr 63)] (q_push v []) S Q)) :
    z_C 29 [.inr (.inr 63)] (z_st m g) Q := y_C_wp (cs := [3]) (ng := []) (sy := []) (n := 300) y_29aP h
theorem y_29a_3 {m : z_M} {g : z_g} {Q : q_V → q_S → Prop} {s0 : Int} (h :
    Q (.inl s0) (z_st m g)) :
    z_T 29 3 [.inr (.inr 63)] [.inl s0] (z_st m g) Q := y_wp_T (cd := q_c29) (cs := [3]) (ng := []) (sy := []) rfl 300 3 _ _ _ _ h
theorem y_29bP : q_P 29 = (q_c29, 1) := rfl
theorem y_29b {m : z_M} {g : z_g} {Q : q_V → q_S → Prop} (h :
    z_C 28 [.inr (.inr 66), .inl (0 : Int)] (z_st m g) (fun v S => z_T 29 3 [.inr (.inr 66)] (q_push v []) S Q)) :
    z_C 29 [.inr (.inr 66)] (z_st m g) Q := y_C_wp (cs := [3]) (ng := []) (sy := []) (n := 300) y_29bP h
theorem y_29b_3 {m : z_M} {g : z_g} {Q : q_V → q_S → Prop} {s0 : Int} (h :
    Q (.inl s0) (z_st m g)) :
    z_T 29 3 [.inr (.inr 66)] [.inl s0] (z_st m g) Q := y_wp_T (cd := q_c29) (cs := [3]) (ng := []) (sy := []) rfl 300 3 _ _ _ _ h
theorem y_30aP : q_P 30 = (q_c30, 3) := rfl
theorem y_30a {m : z_M} {g : z_g} {Q : q_V → q_S → Prop} (h :
    z_T 30 4 [.inr (.inr 63), .inl (0 : Int), .inl (1 : Int)] [] (z_st m g) Q) :
    z_C 30 [.inr (.inr 63)] (z_st m g) Q := y_C_wp (cs := [4, 21]) (ng := []) (sy := []) (n := 300) y_30aP h
theorem y_30a_4 {m : z_M} {g : z_g} {Q : q_V → q_S → Prop} {a1 a2 : Int} (h :
    z_ok2 a2 (m 63 1) ∧
    ((m 63 1) ≤ a2 →
      Q (.inl a1) (z_st m g)) ∧
    (a2 < (m 63 1) →
      z_ok a1 ∧
      z_in a2 6 ∧
      z_in (0 : Int) 6 ∧
      z_ok ((m 64 ((a2).toNat)) - (m 64 0)) ∧
      z_C 31 [.inr (.inl a1), .inr (.inl ((m 64 ((a2).toNat)) - (m 64 0)))] (z_st m g) (fun v S => z_T 30 21 [.inr (.inr 63), .inl a1, .inl a2] (q_push v []) S Q))) :
    z_T 30 4 [.inr (.inr 63), .inl a1, .inl a2] [] (z_st m g) Q := y_wp_T (cd := q_c30) (cs := [4, 21]) (ng := []) (sy := []) rfl 300 4 _ _ _ _ h
theorem y_30a_21 {m : z_M} {g : z_g} {Q : q_V → q_S → Prop} {a1 a2 s0 : Int} (h :
    z_T 30 4 [.inr (.inr 63), .inl s0, .inl (a2 + (1 : Int))] [] (z_st m g) Q) :
    z_T 30 21 [.inr (.inr 63), .inl a1, .inl a2] [.inr (.inl s0)] (z_st m g) Q := y_wp_T (cd := q_c30) (cs := [4, 21]) (ng := []) (sy := []) rfl 300 21 _ _ _ _ h
theorem y_30bP : q_P 30 = (q_c30, 3) := rfl
theorem y_30b {m : z_M} {g : z_g} {Q : q_V → q_S → Prop} (h :
    z_T 30 4 [.inr (.inr 66), .inl (0 : Int), .inl (1 : Int)] [] (z_st m g) Q) :
    z_C 30 [.inr (.inr 66)] (z_st m g) Q := y_C_wp (cs := [4, 21]) (ng := []) (sy := []) (n := 300) y_30bP h
theorem y_30b_4 {m : z_M} {g : z_g} {Q : q_V → q_S → Prop} {a1 a2 : Int} (h :
    z_ok2 a2 (m 66 1) ∧
    ((m 66 1) ≤ a2 →
      Q (.inl a1) (z_st m g)) ∧
    (a2 < (m 66 1) →
      z_ok a1 ∧
      z_in a2 6 ∧
      z_in (0 : Int) 6 ∧
      z_ok ((m 67 ((a2).toNat)) - (m 67 0)) ∧
      z_C 31 [.inr (.inl a1), .inr (.inl ((m 67 ((a2).toNat)) - (m 67 0)))] (z_st m g) (fun v S => z_T 30 21 [.inr (.inr 66), .inl a1, .inl a2] (q_push v []) S Q))) :
    z_T 30 4 [.inr (.inr 66), .inl a1, .inl a2] [] (z_st m g) Q := y_wp_T (cd := q_c30) (cs := [4, 21]) (ng := []) (sy := []) rfl 300 4 _ _ _ _ h
theorem y_30b_21 {m : z_M} {g : z_g} {Q : q_V → q_S → Prop} {a1 a2 s0 : Int} (h :
    z_T 30 4 [.inr (.inr 66), .inl s0, .inl (a2 + (1 : Int))] [] (z_st m g) Q) :
    z_T 30 21 [.inr (.inr 66), .inl a1, .inl a2] [.inr (.inl s0)] (z_st m g) Q := y_wp_T (cd := q_c30) (cs := [4, 21]) (ng := []) (sy := []) rfl 300 21 _ _ _ _ h
theorem y_31P : q_P 31 = (q_c31, 11) := rfl
theorem y_31 {m : z_M} {g : z_g} {Q : q_V → q_S → Prop} {a0 a2 : Int} (h :
    z_T 31 6 [.inr (.inl a0), q_dead, .inr (.inl a2), q_dead, .inr (.inl a0), q_dead, .inr (.inl a2), q_dead, .inl (0 : Int), q_dead, q_dead] [] (z_st m g) Q) :
    z_C 31 [.inr (.inl a0), .inr (.inl a2)] (z_st m g) Q := y_C_wp (cs := [6]) (ng := []) (sy := []) (n := 300) y_31P h
theorem y_31_6 {m : z_M} {g : z_g} {Q : q_V → q_S → Prop} {a0 a2 a4 a6 a8 : Int} {da9 : q_V} (h :
    z_ok2 a8 (128 : Int) ∧
    ((128 : Int) ≤ a8 →
      Q (.inr (.inl a4)) (z_st m g)) ∧
    (a8 < (128 : Int) →
      z_okl2 a6 (0 : Int) ∧
      z_ok (if a6 < (0 : Int) then (-1 : Int) else if a6 = (0 : Int) then 0 else 1) ∧
      ((if a6 < (0 : Int) then (-1 : Int) else if a6 = (0 : Int) then 0 else 1) = (0 : Int) →
        Q (.inr (.inl a4)) (z_st m g)) ∧
      (¬ (if a6 < (0 : Int) then (-1 : Int) else if a6 = (0 : Int) then 0 else 1) = (0 : Int) →
        z_dl a4 a6 ∧
        z_T 31 6 [.inr (.inl a0), q_dead, .inr (.inl a2), q_dead, .inr (.inl a6), q_dead, .inr (.inl (a4 % a6)), q_dead, .inl (a8 + (1 : Int)), .inr (.inl (a4 % a6)), q_dead] [] (z_st m g) Q))) :
    z_T 31 6 [.inr (.inl a0), q_dead, .inr (.inl a2), q_dead, .inr (.inl a4), q_dead, .inr (.inl a6), q_dead, .inl a8, da9, q_dead] [] (z_st m g) Q := y_wp_T (cd := q_c31) (cs := [6]) (ng := []) (sy := []) rfl 300 6 _ _ _ _ h
theorem y_32aP : q_P 32 = (q_c32, 2) := rfl
theorem y_32a {m : z_M} {g : z_g} {Q : q_V → q_S → Prop} (h :
    z_C 30 [.inr (.inr 63)] (z_st m g) (fun v S => z_T 32 2 [.inr (.inr 63), q_dead] (q_push v []) S Q)) :
    z_C 32 [.inr (.inr 63)] (z_st m g) Q := y_C_wp (cs := [2, 10]) (ng := []) (sy := []) (n := 300) y_32aP h
theorem y_32a_2 {m : z_M} {g : z_g} {Q : q_V → q_S → Prop} {s0 : Int} (h :
    z_ok2 s0 (1 : Int) ∧
    ((1 : Int) ≤ s0 →
      z_C 26 [.inr (.inr 63)] (z_st m g) (fun v S => z_T 32 10 [.inr (.inr 63), .inl s0] (q_push v []) S Q)) ∧
    (s0 < (1 : Int) →
      Q (.inl (0 : Int)) (z_st m g))) :
    z_T 32 2 [.inr (.inr 63), q_dead] [.inl s0] (z_st m g) Q := y_wp_T (cd := q_c32) (cs := [2, 10]) (ng := []) (sy := []) rfl 300 2 _ _ _ _ h
theorem y_32a_10 {m : z_M} {g : z_g} {Q : q_V → q_S → Prop} {a1 s0 : Int} (h :
    z_dv s0 a1 ∧
    Q (.inl (s0 / a1)) (z_st m g)) :
    z_T 32 10 [.inr (.inr 63), .inl a1] [.inl s0] (z_st m g) Q := y_wp_T (cd := q_c32) (cs := [2, 10]) (ng := []) (sy := []) rfl 300 10 _ _ _ _ h
theorem y_32bP : q_P 32 = (q_c32, 2) := rfl
theorem y_32b {m : z_M} {g : z_g} {Q : q_V → q_S → Prop} (h :
    z_C 30 [.inr (.inr 66)] (z_st m g) (fun v S => z_T 32 2 [.inr (.inr 66), q_dead] (q_push v []) S Q)) :
    z_C 32 [.inr (.inr 66)] (z_st m g) Q := y_C_wp (cs := [2, 10]) (ng := []) (sy := []) (n := 300) y_32bP h
theorem y_32b_2 {m : z_M} {g : z_g} {Q : q_V → q_S → Prop} {s0 : Int} (h :
    z_ok2 s0 (1 : Int) ∧
    ((1 : Int) ≤ s0 →
      z_C 26 [.inr (.inr 66)] (z_st m g) (fun v S => z_T 32 10 [.inr (.inr 66), .inl s0] (q_push v []) S Q)) ∧
    (s0 < (1 : Int) →
      Q (.inl (0 : Int)) (z_st m g))) :
    z_T 32 2 [.inr (.inr 66), q_dead] [.inl s0] (z_st m g) Q := y_wp_T (cd := q_c32) (cs := [2, 10]) (ng := []) (sy := []) rfl 300 2 _ _ _ _ h
theorem y_32b_10 {m : z_M} {g : z_g} {Q : q_V → q_S → Prop} {a1 s0 : Int} (h :
    z_dv s0 a1 ∧
    Q (.inl (s0 / a1)) (z_st m g)) :
    z_T 32 10 [.inr (.inr 66), .inl a1] [.inl s0] (z_st m g) Q := y_wp_T (cd := q_c32) (cs := [2, 10]) (ng := []) (sy := []) rfl 300 10 _ _ _ _ h
theorem y_33aP : q_P 33 = (q_c33, 3) := rfl
theorem y_33a {m : z_M} {g : z_g} {Q : q_V → q_S → Prop} (h :
    z_C 30 [.inr (.inr 63)] (z_st m g) (fun v S => z_T 33 2 [.inr (.inr 63), q_dead, q_dead] (q_push v []) S Q)) :
    z_C 33 [.inr (.inr 63)] (z_st m g) Q := y_C_wp (cs := [2, 6, 8, 11, 18, 28]) (ng := []) (sy := []) (n := 300) y_33aP h
theorem y_33a_2 {m : z_M} {g : z_g} {Q : q_V → q_S → Prop} {s0 : Int} (h :
    z_C 28 [.inr (.inr 63), .inl (1 : Int)] (z_st m g) (fun v S => z_T 33 6 [.inr (.inr 63), .inl s0, q_dead] (q_push v []) S Q)) :
    z_T 33 2 [.inr (.inr 63), q_dead, q_dead] [.inl s0] (z_st m g) Q := y_wp_T (cd := q_c33) (cs := [2, 6, 8, 11, 18, 28]) (ng := []) (sy := []) rfl 300 2 _ _ _ _ h
theorem y_33a_6 {m : z_M} {g : z_g} {Q : q_V → q_S → Prop} {a1 s0 : Int} (h :
    z_C 29 [.inr (.inr 63)] (z_st m g) (fun v S => z_T 33 8 [.inr (.inr 63), .inl a1, q_dead] (q_push v [.inl s0]) S Q)) :
    z_T 33 6 [.inr (.inr 63), .inl a1, q_dead] [.inl s0] (z_st m g) Q := y_wp_T (cd := q_c33) (cs := [2, 6, 8, 11, 18, 28]) (ng := []) (sy := []) rfl 300 6 _ _ _ _ h
theorem y_33a_8 {m : z_M} {g : z_g} {Q : q_V → q_S → Prop} {a1 s0 s1 : Int} (h :
    z_C 27 [.inr (.inr 63)] (z_st m g) (fun v S => z_T 33 11 [.inr (.inr 63), .inl a1, q_dead] (q_push v [.inl (s1 - s0)]) S Q)) :
    z_T 33 8 [.inr (.inr 63), .inl a1, q_dead] [.inl s0, .inl s1] (z_st m g) Q := y_wp_T (cd := q_c33) (cs := [2, 6, 8, 11, 18, 28]) (ng := []) (sy := []) rfl 300 8 _ _ _ _ h
theorem y_33a_11 {m : z_M} {g : z_g} {Q : q_V → q_S → Prop} {a1 s0 s1 : Int} (h :
    z_C 28 [.inr (.inr 63), .inl ((m 63 1) - (2 : Int))] (z_st m g) (fun v S => z_T 33 18 [.inr (.inr 63), .inl a1, q_dead] (q_push v [.inl (s1 + s0)]) S Q)) :
    z_T 33 11 [.inr (.inr 63), .inl a1, q_dead] [.inl s0, .inl s1] (z_st m g) Q := y_wp_T (cd := q_c33) (cs := [2, 6, 8, 11, 18, 28]) (ng := []) (sy := []) rfl 300 11 _ _ _ _ h
theorem y_33a_18 {m : z_M} {g : z_g} {Q : q_V → q_S → Prop} {a1 s0 s1 : Int} (h :
    z_ok2 a1 (1 : Int) ∧
    ((1 : Int) ≤ a1 →
      z_C 26 [.inr (.inr 63)] (z_st m g) (fun v S => z_T 33 28 [.inr (.inr 63), .inl a1, .inl (s1 - s0)] (q_push v [.inl (2 : Int)]) S Q)) ∧
    (a1 < (1 : Int) →
      Q (.inl (0 : Int)) (z_st m g))) :
    z_T 33 18 [.inr (.inr 63), .inl a1, q_dead] [.inl s0, .inl s1] (z_st m g) Q := y_wp_T (cd := q_c33) (cs := [2, 6, 8, 11, 18, 28]) (ng := []) (sy := []) rfl 300 18 _ _ _ _ h
theorem y_33a_28 {m : z_M} {g : z_g} {Q : q_V → q_S → Prop} {a1 a2 s0 s1 : Int} (h :
    z_dv ((s1 * s0) - a2) a1 ∧
    Q (.inl (((s1 * s0) - a2) / a1)) (z_st m g)) :
    z_T 33 28 [.inr (.inr 63), .inl a1, .inl a2] [.inl s0, .inl s1] (z_st m g) Q := y_wp_T (cd := q_c33) (cs := [2, 6, 8, 11, 18, 28]) (ng := []) (sy := []) rfl 300 28 _ _ _ _ h
theorem y_33bP : q_P 33 = (q_c33, 3) := rfl
theorem y_33b {m : z_M} {g : z_g} {Q : q_V → q_S → Prop} (h :
    z_C 30 [.inr (.inr 66)] (z_st m g) (fun v S => z_T 33 2 [.inr (.inr 66), q_dead, q_dead] (q_push v []) S Q)) :
    z_C 33 [.inr (.inr 66)] (z_st m g) Q := y_C_wp (cs := [2, 6, 8, 11, 18, 28]) (ng := []) (sy := []) (n := 300) y_33bP h
theorem y_33b_2 {m : z_M} {g : z_g} {Q : q_V → q_S → Prop} {s0 : Int} (h :
    z_C 28 [.inr (.inr 66), .inl (1 : Int)] (z_st m g) (fun v S => z_T 33 6 [.inr (.inr 66), .inl s0, q_dead] (q_push v []) S Q)) :
    z_T 33 2 [.inr (.inr 66), q_dead, q_dead] [.inl s0] (z_st m g) Q := y_wp_T (cd := q_c33) (cs := [2, 6, 8, 11, 18, 28]) (ng := []) (sy := []) rfl 300 2 _ _ _ _ h
theorem y_33b_6 {m : z_M} {g : z_g} {Q : q_V → q_S → Prop} {a1 s0 : Int} (h :
    z_C 29 [.inr (.inr 66)] (z_st m g) (fun v S => z_T 33 8 [.inr (.inr 66), .inl a1, q_dead] (q_push v [.inl s0]) S Q)) :
    z_T 33 6 [.inr (.inr 66), .inl a1, q_dead] [.inl s0] (z_st m g) Q := y_wp_T (cd := q_c33) (cs := [2, 6, 8, 11, 18, 28]) (ng := []) (sy := []) rfl 300 6 _ _ _ _ h
theorem y_33b_8 {m : z_M} {g : z_g} {Q : q_V → q_S → Prop} {a1 s0 s1 : Int} (h :
    z_C 27 [.inr (.inr 66)] (z_st m g) (fun v S => z_T 33 11 [.inr (.inr 66), .inl a1, q_dead] (q_push v [.inl (s1 - s0)]) S Q)) :
    z_T 33 8 [.inr (.inr 66), .inl a1, q_dead] [.inl s0, .inl s1] (z_st m g) Q := y_wp_T (cd := q_c33) (cs := [2, 6, 8, 11, 18, 28]) (ng := []) (sy := []) rfl 300 8 _ _ _ _ h
theorem y_33b_11 {m : z_M} {g : z_g} {Q : q_V → q_S → Prop} {a1 s0 s1 : Int} (h :
    z_C 28 [.inr (.inr 66), .inl ((m 66 1) - (2 : Int))] (z_st m g) (fun v S => z_T 33 18 [.inr (.inr 66), .inl a1, q_dead] (q_push v [.inl (s1 + s0)]) S Q)) :
    z_T 33 11 [.inr (.inr 66), .inl a1, q_dead] [.inl s0, .inl s1] (z_st m g) Q := y_wp_T (cd := q_c33) (cs := [2, 6, 8, 11, 18, 28]) (ng := []) (sy := []) rfl 300 11 _ _ _ _ h
theorem y_33b_18 {m : z_M} {g : z_g} {Q : q_V → q_S → Prop} {a1 s0 s1 : Int} (h :
    z_ok2 a1 (1 : Int) ∧
    ((1 : Int) ≤ a1 →
      z_C 26 [.inr (.inr 66)] (z_st m g) (fun v S => z_T 33 28 [.inr (.inr 66), .inl a1, .inl (s1 - s0)] (q_push v [.inl (2 : Int)]) S Q)) ∧
    (a1 < (1 : Int) →
      Q (.inl (0 : Int)) (z_st m g))) :
    z_T 33 18 [.inr (.inr 66), .inl a1, q_dead] [.inl s0, .inl s1] (z_st m g) Q := y_wp_T (cd := q_c33) (cs := [2, 6, 8, 11, 18, 28]) (ng := []) (sy := []) rfl 300 18 _ _ _ _ h
theorem y_33b_28 {m : z_M} {g : z_g} {Q : q_V → q_S → Prop} {a1 a2 s0 s1 : Int} (h :
    z_dv ((s1 * s0) - a2) a1 ∧
    Q (.inl (((s1 * s0) - a2) / a1)) (z_st m g)) :
    z_T 33 28 [.inr (.inr 66), .inl a1, .inl a2] [.inl s0, .inl s1] (z_st m g) Q := y_wp_T (cd := q_c33) (cs := [2, 6, 8, 11, 18, 28]) (ng := []) (sy := []) rfl 300 28 _ _ _ _ h
theorem y_34aP : q_P 34 = (q_c34, 1) := rfl
theorem y_34a {m : z_M} {g : z_g} {Q : q_V → q_S → Prop} (h :
    z_C 35 [.inl (0 : Int), .inl ((m 63 1) - (2 : Int))] (z_st m g) (fun v S => z_T 34 6 [.inr (.inr 63)] (q_push v []) S Q)) :
    z_C 34 [.inr (.inr 63)] (z_st m g) Q := y_C_wp (cs := [6]) (ng := []) (sy := []) (n := 300) y_34aP h
theorem y_34a_6 {m : z_M} {g : z_g} {Q : q_V → q_S → Prop} {s0 : Int} (h :
    Q (.inl s0) (z_st m g)) :
    z_T 34 6 [.inr (.inr 63)] [.inl s0] (z_st m g) Q := y_wp_T (cd := q_c34) (cs := [6]) (ng := []) (sy := []) rfl 300 6 _ _ _ _ h
theorem y_34bP : q_P 34 = (q_c34, 1) := rfl
theorem y_34b {m : z_M} {g : z_g} {Q : q_V → q_S → Prop} (h :
    z_C 35 [.inl (0 : Int), .inl ((m 66 1) - (2 : Int))] (z_st m g) (fun v S => z_T 34 6 [.inr (.inr 66)] (q_push v []) S Q)) :
    z_C 34 [.inr (.inr 66)] (z_st m g) Q := y_C_wp (cs := [6]) (ng := []) (sy := []) (n := 300) y_34bP h
theorem y_34b_6 {m : z_M} {g : z_g} {Q : q_V → q_S → Prop} {s0 : Int} (h :
    Q (.inl s0) (z_st m g)) :
    z_T 34 6 [.inr (.inr 66)] [.inl s0] (z_st m g) Q := y_wp_T (cd := q_c34) (cs := [6]) (ng := []) (sy := []) rfl 300 6 _ _ _ _ h
theorem y_35P : q_P 35 = (q_c35, 2) := rfl
theorem y_35 {m : z_M} {g : z_g} {Q : q_V → q_S → Prop} {a0 a1 : Int} (h :
    z_ok2 a0 a1 ∧
    (a0 < a1 →
      Q (.inl a1) (z_st m g)) ∧
    (a1 ≤ a0 →
      Q (.inl a0) (z_st m g))) :
    z_C 35 [.inl a0, .inl a1] (z_st m g) Q := y_C_wp (cs := []) (ng := []) (sy := []) (n := 300) y_35P h
theorem y_36P : q_P 36 = (q_c36, 5) := rfl
theorem y_36 {m : z_M} {g : z_g} {Q : q_V → q_S → Prop} {a1 a2 a3 : Int} (h :
    z_C 24 [.inr (.inr 0), .inl a1] (z_st m g) (fun v S => z_T 36 3 [.inr (.inr 0), .inl a1, .inl a2, .inl a3, q_dead] (q_push v []) S Q)) :
    z_C 36 [.inr (.inr 0), .inl a1, .inl a2, .inl a3] (z_st m g) Q := y_C_wp (cs := [3, 14, 18, 25, 36]) (ng := []) (sy := []) (n := 300) y_36P h
theorem y_36_3 {m : z_M} {g : z_g} {Q : q_V → q_S → Prop} {a1 a2 a3 s0 : Int} (h :
    z_ok s0 ∧
    (¬ s0 = (0 : Int) →
      z_in a1 6 ∧
      z_C 25 [.inr (.inr 63), .inl (m 2 ((a1).toNat))] (z_st m g) (fun v S => z_T 36 14 [.inr (.inr 0), .inl a1, .inl a2, .inl a3, q_dead] (q_push v []) S Q)) ∧
    (s0 = (0 : Int) →
      Q (.inl (-1 : Int)) (z_st m g))) :
    z_T 36 3 [.inr (.inr 0), .inl a1, .inl a2, .inl a3, q_dead] [.inl s0] (z_st m g) Q := y_wp_T (cd := q_c36) (cs := [3, 14, 18, 25, 36]) (ng := []) (sy := []) rfl 300 3 _ _ _ _ h
theorem y_36_14 {m : z_M} {g : z_g} {Q : q_V → q_S → Prop} {a1 a2 a3 : Int} (h :
    z_C 37 [.inr (.inr 63), .inl a3] (z_st m g) (fun v S => z_T 36 18 [.inr (.inr 0), .inl a1, .inl a2, .inl a3, q_dead] (q_push v []) S Q)) :
    z_T 36 14 [.inr (.inr 0), .inl a1, .inl a2, .inl a3, q_dead] [] (z_st m g) Q := y_wp_T (cd := q_c36) (cs := [3, 14, 18, 25, 36]) (ng := []) (sy := []) rfl 300 14 _ _ _ _ h
theorem y_36_18 {m : z_M} {g : z_g} {Q : q_V → q_S → Prop} {a1 a2 a3 s0 : Int} (h :
    z_ok a2 ∧
    (a2 < (0 : Int) →
      Q (.inl (-1 : Int)) (z_st m g)) ∧
    ((0 : Int) ≤ a2 →
      z_C 34 [.inr (.inr 63)] (z_st m g) (fun v S => z_T 36 25 [.inr (.inr 0), .inl a1, .inl a2, .inl a3, .inl s0] (q_push v [.inl a2]) S Q))) :
    z_T 36 18 [.inr (.inr 0), .inl a1, .inl a2, .inl a3, q_dead] [.inl s0] (z_st m g) Q := y_wp_T (cd := q_c36) (cs := [3, 14, 18, 25, 36]) (ng := []) (sy := []) rfl 300 18 _ _ _ _ h
theorem y_36_25 {m : z_M} {g : z_g} {Q : q_V → q_S → Prop} {a1 a2 a3 a4 s0 s1 : Int} (h :
    z_ok2 s1 s0 ∧
    (s0 ≤ s1 →
      Q (.inl (-1 : Int)) (z_st m g)) ∧
    (s1 < s0 →
      z_ok a4 ∧
      ((0 : Int) ≤ a4 →
        z_C 38 [.inr (.inr 63), .inl a2, .inl a4] (z_st m g) (fun v S => z_T 36 36 [.inr (.inr 0), .inl a1, .inl a2, .inl a3, .inl a4] (q_push v [.inl (100 : Int)]) S Q)) ∧
      (a4 < (0 : Int) →
        Q (.inl (-1 : Int)) (z_st m g)))) :
    z_T 36 25 [.inr (.inr 0), .inl a1, .inl a2, .inl a3, .inl a4] [.inl s0, .inl s1] (z_st m g) Q := y_wp_T (cd := q_c36) (cs := [3, 14, 18, 25, 36]) (ng := []) (sy := []) rfl 300 25 _ _ _ _ h
theorem y_36_36 {m : z_M} {g : z_g} {Q : q_V → q_S → Prop} {a1 a2 a3 a4 s0 s1 : Int} (h :
    Q (.inl (s1 + s0)) (z_st m g)) :
    z_T 36 36 [.inr (.inr 0), .inl a1, .inl a2, .inl a3, .inl a4] [.inl s0, .inl s1] (z_st m g) Q := y_wp_T (cd := q_c36) (cs := [3, 14, 18, 25, 36]) (ng := []) (sy := []) rfl 300 36 _ _ _ _ h
theorem y_37aP : q_P 37 = (q_c37, 3) := rfl
theorem y_37a {m : z_M} {g : z_g} {Q : q_V → q_S → Prop} {a1 : Int} (h :
    z_T 37 2 [.inr (.inr 63), .inl a1, .inl (0 : Int)] [] (z_st m g) Q) :
    z_C 37 [.inr (.inr 63), .inl a1] (z_st m g) Q := y_C_wp (cs := [2]) (ng := []) (sy := []) (n := 300) y_37aP h
theorem y_37a_2 {m : z_M} {g : z_g} {Q : q_V → q_S → Prop} {a1 a2 : Int} (h :
    z_ok2 a2 (m 63 1) ∧
    ((m 63 1) ≤ a2 →
      Q (.inl (-1 : Int)) (z_st m g)) ∧
    (a2 < (m 63 1) →
      z_in a2 6 ∧
      z_ok2 (m 64 ((a2).toNat)) a1 ∧
      (¬ (m 64 ((a2).toNat)) = a1 →
        z_T 37 2 [.inr (.inr 63), .inl a1, .inl (a2 + (1 : Int))] [] (z_st m g) Q) ∧
      ((m 64 ((a2).toNat)) = a1 →
        Q (.inl a2) (z_st m g)))) :
    z_T 37 2 [.inr (.inr 63), .inl a1, .inl a2] [] (z_st m g) Q := y_wp_T (cd := q_c37) (cs := [2]) (ng := []) (sy := []) rfl 300 2 _ _ _ _ h
theorem y_37bP : q_P 37 = (q_c37, 3) := rfl
theorem y_37b {m : z_M} {g : z_g} {Q : q_V → q_S → Prop} {a1 : Int} (h :
    z_T 37 2 [.inr (.inr 66), .inl a1, .inl (0 : Int)] [] (z_st m g) Q) :
    z_C 37 [.inr (.inr 66), .inl a1] (z_st m g) Q := y_C_wp (cs := [2]) (ng := []) (sy := []) (n := 300) y_37bP h
theorem y_37b_2 {m : z_M} {g : z_g} {Q : q_V → q_S → Prop} {a1 a2 : Int} (h :
    z_ok2 a2 (m 66 1) ∧
    ((m 66 1) ≤ a2 →
      Q (.inl (-1 : Int)) (z_st m g)) ∧
    (a2 < (m 66 1) →
      z_in a2 6 ∧
      z_ok2 (m 67 ((a2).toNat)) a1 ∧
      (¬ (m 67 ((a2).toNat)) = a1 →
        z_T 37 2 [.inr (.inr 66), .inl a1, .inl (a2 + (1 : Int))] [] (z_st m g) Q) ∧
      ((m 67 ((a2).toNat)) = a1 →
        Q (.inl a2) (z_st m g)))) :
    z_T 37 2 [.inr (.inr 66), .inl a1, .inl a2] [] (z_st m g) Q := y_wp_T (cd := q_c37) (cs := [2]) (ng := []) (sy := []) rfl 300 2 _ _ _ _ h
theorem y_38aP : q_P 38 = (q_c38, 7) := rfl
theorem y_38a {m : z_M} {g : z_g} {Q : q_V → q_S → Prop} {a1 a2 : Int} (h :
    z_C 28 [.inr (.inr 63), .inl a1] (z_st m g) (fun v S => z_T 38 3 [.inr (.inr 63), .inl a1, .inl a2, q_dead, q_dead, q_dead, q_dead] (q_push v []) S Q)) :
    z_C 38 [.inr (.inr 63), .inl a1, .inl a2] (z_st m g) Q := y_C_wp (cs := [3, 9, 15, 25]) (ng := []) (sy := []) (n := 300) y_38aP h
theorem y_38a_3 {m : z_M} {g : z_g} {Q : q_V → q_S → Prop} {a1 a2 s0 : Int} (h :
    z_C 28 [.inr (.inr 63), .inl (a1 + (1 : Int))] (z_st m g) (fun v S => z_T 38 9 [.inr (.inr 63), .inl a1, .inl a2, .inl s0, q_dead, q_dead, q_dead] (q_push v []) S Q)) :
    z_T 38 3 [.inr (.inr 63), .inl a1, .inl a2, q_dead, q_dead, q_dead, q_dead] [.inl s0] (z_st m g) Q := y_wp_T (cd := q_c38) (cs := [3, 9, 15, 25]) (ng := []) (sy := []) rfl 300 3 _ _ _ _ h
theorem y_38a_9 {m : z_M} {g : z_g} {Q : q_V → q_S → Prop} {a1 a2 a3 s0 : Int} (h :
    z_C 28 [.inr (.inr 63), .inl (a1 + (2 : Int))] (z_st m g) (fun v S => z_T 38 15 [.inr (.inr 63), .inl a1, .inl a2, .inl a3, .inl s0, q_dead, q_dead] (q_push v []) S Q)) :
    z_T 38 9 [.inr (.inr 63), .inl a1, .inl a2, .inl a3, q_dead, q_dead, q_dead] [.inl s0] (z_st m g) Q := y_wp_T (cd := q_c38) (cs := [3, 9, 15, 25]) (ng := []) (sy := []) rfl 300 9 _ _ _ _ h
theorem y_38a_15 {m : z_M} {g : z_g} {Q : q_V → q_S → Prop} {a1 a2 a3 a4 s0 : Int} (h :
    z_ok (a4 - a3) ∧
    z_ok (s0 - a4) ∧
    z_C 31 [.inr (.inl (a4 - a3)), .inr (.inl (s0 - a4))] (z_st m g) (fun v S => z_T 38 25 [.inr (.inr 63), .inl a1, .inl a2, .inl a3, .inl a4, .inl s0, q_dead] (q_push v []) S Q)) :
    z_T 38 15 [.inr (.inr 63), .inl a1, .inl a2, .inl a3, .inl a4, q_dead, q_dead] [.inl s0] (z_st m g) Q := y_wp_T (cd := q_c38) (cs := [3, 9, 15, 25]) (ng := []) (sy := []) rfl 300 15 _ _ _ _ h
theorem y_38a_25 {m : z_M} {g : z_g} {Q : q_V → q_S → Prop} {a1 a2 a3 a4 a5 s0 : Int} (h :
    z_ok2 s0 (1 : Int) ∧
    ((1 : Int) ≤ s0 →
      z_ok2 a2 a1 ∧
      (¬ a2 = a1 →
        z_ok2 a2 (a1 + (1 : Int)) ∧
        (¬ a2 = (a1 + (1 : Int)) →
          z_ok2 a2 (a1 + (2 : Int)) ∧
          (¬ a2 = (a1 + (2 : Int)) →
            Q (.inl (0 : Int)) (z_st m g)) ∧
          (a2 = (a1 + (2 : Int)) →
            z_dw (a4 - a3) s0 ∧
            Q (.inl ((a4 - a3).tdiv s0)) (z_st m g))) ∧
        (a2 = (a1 + (1 : Int)) →
          z_dw (a3 - a5) s0 ∧
          Q (.inl ((a3 - a5).tdiv s0)) (z_st m g))) ∧
      (a2 = a1 →
        z_dw (a5 - a4) s0 ∧
        Q (.inl ((a5 - a4).tdiv s0)) (z_st m g))) ∧
    (s0 < (1 : Int) →
      Q (.inl (0 : Int)) (z_st m g))) :
    z_T 38 25 [.inr (.inr 63), .inl a1, .inl a2, .inl a3, .inl a4, .inl a5, q_dead] [.inr (.inl s0)] (z_st m g) Q := y_wp_T (cd := q_c38) (cs := [3, 9, 15, 25]) (ng := [39, 50, 61]) (sy := []) rfl 300 25 _ _ _ _ h
theorem y_38bP : q_P 38 = (q_c38, 7) := rfl
theorem y_38b {m : z_M} {g : z_g} {Q : q_V → q_S → Prop} {a1 a2 : Int} (h :
    z_C 28 [.inr (.inr 66), .inl a1] (z_st m g) (fun v S => z_T 38 3 [.inr (.inr 66), .inl a1, .inl a2, q_dead, q_dead, q_dead, q_dead] (q_push v []) S Q)) :
    z_C 38 [.inr (.inr 66), .inl a1, .inl a2] (z_st m g) Q := y_C_wp (cs := [3, 9, 15, 25]) (ng := []) (sy := []) (n := 300) y_38bP h
theorem y_38b_3 {m : z_M} {g : z_g} {Q : q_V → q_S → Prop} {a1 a2 s0 : Int} (h :
    z_C 28 [.inr (.inr 66), .inl (a1 + (1 : Int))] (z_st m g) (fun v S => z_T 38 9 [.inr (.inr 66), .inl a1, .inl a2, .inl s0, q_dead, q_dead, q_dead] (q_push v []) S Q)) :
    z_T 38 3 [.inr (.inr 66), .inl a1, .inl a2, q_dead, q_dead, q_dead, q_dead] [.inl s0] (z_st m g) Q := y_wp_T (cd := q_c38) (cs := [3, 9, 15, 25]) (ng := []) (sy := []) rfl 300 3 _ _ _ _ h
theorem y_38b_9 {m : z_M} {g : z_g} {Q : q_V → q_S → Prop} {a1 a2 a3 s0 : Int} (h :
    z_C 28 [.inr (.inr 66), .inl (a1 + (2 : Int))] (z_st m g) (fun v S => z_T 38 15 [.inr (.inr 66), .inl a1, .inl a2, .inl a3, .inl s0, q_dead, q_dead] (q_push v []) S Q)) :
    z_T 38 9 [.inr (.inr 66), .inl a1, .inl a2, .inl a3, q_dead, q_dead, q_dead] [.inl s0] (z_st m g) Q := y_wp_T (cd := q_c38) (cs := [3, 9, 15, 25]) (ng := []) (sy := []) rfl 300 9 _ _ _ _ h
theorem y_38b_15 {m : z_M} {g : z_g} {Q : q_V → q_S → Prop} {a1 a2 a3 a4 s0 : Int} (h :
    z_ok (a4 - a3) ∧
    z_ok (s0 - a4) ∧
    z_C 31 [.inr (.inl (a4 - a3)), .inr (.inl (s0 - a4))] (z_st m g) (fun v S => z_T 38 25 [.inr (.inr 66), .inl a1, .inl a2, .inl a3, .inl a4, .inl s0, q_dead] (q_push v []) S Q)) :
    z_T 38 15 [.inr (.inr 66), .inl a1, .inl a2, .inl a3, .inl a4, q_dead, q_dead] [.inl s0] (z_st m g) Q := y_wp_T (cd := q_c38) (cs := [3, 9, 15, 25]) (ng := []) (sy := []) rfl 300 15 _ _ _ _ h
theorem y_38b_25 {m : z_M} {g : z_g} {Q : q_V → q_S → Prop} {a1 a2 a3 a4 a5 s0 : Int} (h :
    z_ok2 s0 (1 : Int) ∧
    ((1 : Int) ≤ s0 →
      z_ok2 a2 a1 ∧
      (¬ a2 = a1 →
        z_ok2 a2 (a1 + (1 : Int)) ∧
        (¬ a2 = (a1 + (1 : Int)) →
          z_ok2 a2 (a1 + (2 : Int)) ∧
          (¬ a2 = (a1 + (2 : Int)) →
            Q (.inl (0 : Int)) (z_st m g)) ∧
          (a2 = (a1 + (2 : Int)) →
            z_dw (a4 - a3) s0 ∧
            Q (.inl ((a4 - a3).tdiv s0)) (z_st m g))) ∧
        (a2 = (a1 + (1 : Int)) →
          z_dw (a3 - a5) s0 ∧
          Q (.inl ((a3 - a5).tdiv s0)) (z_st m g))) ∧
      (a2 = a1 →
        z_dw (a5 - a4) s0 ∧
        Q (.inl ((a5 - a4).tdiv s0)) (z_st m g))) ∧
    (s0 < (1 : Int) →
      Q (.inl (0 : Int)) (z_st m g))) :
    z_T 38 25 [.inr (.inr 66), .inl a1, .inl a2, .inl a3, .inl a4, .inl a5, q_dead] [.inr (.inl s0)] (z_st m g) Q := y_wp_T (cd := q_c38) (cs := [3, 9, 15, 25]) (ng := [39, 50, 61]) (sy := []) rfl 300 25 _ _ _ _ h
theorem y_39P : q_P 39 = (q_c39, 4) := rfl
theorem y_39 {m : z_M} {g : z_g} {Q : q_V → q_S → Prop} {a1 a2 a3 : Int} (h :
    z_C 24 [.inr (.inr 0), .inl a1] (z_st m g) (fun v S => z_T 39 3 [.inr (.inr 0), .inl a1, .inl a2, .inl a3] (q_push v []) S Q)) :
    z_C 39 [.inr (.inr 0), .inl a1, .inl a2, .inl a3] (z_st m g) Q := y_C_wp (cs := [3, 6, 11, 24, 30]) (ng := []) (sy := []) (n := 300) y_39P h
theorem y_39_3 {m : z_M} {g : z_g} {Q : q_V → q_S → Prop} {a1 a2 a3 s0 : Int} (h :
    z_ok s0 ∧
    (s0 = (0 : Int) →
      Q (.inl (-1 : Int)) (z_st m g)) ∧
    (¬ s0 = (0 : Int) →
      z_C 40 [.inl a2] (z_st m g) (fun v S => z_T 39 6 [.inr (.inr 0), .inl a1, .inl a2, .inl a3] (q_push v []) S Q))) :
    z_T 39 3 [.inr (.inr 0), .inl a1, .inl a2, .inl a3] [.inl s0] (z_st m g) Q := y_wp_T (cd := q_c39) (cs := [3, 6, 11, 24, 30]) (ng := []) (sy := []) rfl 300 3 _ _ _ _ h
theorem y_39_6 {m : z_M} {g : z_g} {Q : q_V → q_S → Prop} {a1 a2 a3 s0 : Int} (h :
    z_ok s0 ∧
    (¬ s0 = (0 : Int) →
      z_C 41 [.inl a3] (z_st m g) (fun v S => z_T 39 11 [.inr (.inr 0), .inl a1, .inl a2, .inl a3] (q_push v []) S Q)) ∧
    (s0 = (0 : Int) →
      Q (.inl (-1 : Int)) (z_st m g))) :
    z_T 39 6 [.inr (.inr 0), .inl a1, .inl a2, .inl a3] [.inl s0] (z_st m g) Q := y_wp_T (cd := q_c39) (cs := [3, 6, 11, 24, 30]) (ng := []) (sy := []) rfl 300 6 _ _ _ _ h
theorem y_39_11 {m : z_M} {g : z_g} {Q : q_V → q_S → Prop} {a1 a2 a3 s0 : Int} (h :
    z_ok s0 ∧
    (¬ s0 = (0 : Int) →
      z_ok2 (m 1 3) (6 : Int) ∧
      ((m 1 3) < (6 : Int) →
        z_C 21 [.inr (.inr 109)] (z_st m g) (fun v S => z_T 39 24 [.inr (.inr 0), .inl a1, .inl a2, .inl a3] (q_push v []) S Q)) ∧
      ((6 : Int) ≤ (m 1 3) →
        Q (.inl (-4 : Int)) (z_st m g))) ∧
    (s0 = (0 : Int) →
      Q (.inl (-2 : Int)) (z_st m g))) :
    z_T 39 11 [.inr (.inr 0), .inl a1, .inl a2, .inl a3] [.inl s0] (z_st m g) Q := y_wp_T (cd := q_c39) (cs := [3, 6, 11, 24, 30]) (ng := []) (sy := []) rfl 300 11 _ _ _ _ h
theorem y_39_24 {m : z_M} {g : z_g} {Q : q_V → q_S → Prop} {a1 a2 a3 : Int} (h :
    z_C 42 [.inr (.inr 1), .inl a1, .inl a2, .inl a3] (z_st m g) (fun v S => z_T 39 30 [.inr (.inr 0), .inl a1, .inl a2, .inl a3] (q_push v []) S Q)) :
    z_T 39 24 [.inr (.inr 0), .inl a1, .inl a2, .inl a3] [] (z_st m g) Q := y_wp_T (cd := q_c39) (cs := [3, 6, 11, 24, 30]) (ng := []) (sy := []) rfl 300 24 _ _ _ _ h
theorem y_39_30 {m : z_M} {g : z_g} {Q : q_V → q_S → Prop} {a1 a2 a3 s0 : Int} (h :
    Q (.inl s0) (z_st m g)) :
    z_T 39 30 [.inr (.inr 0), .inl a1, .inl a2, .inl a3] [.inl s0] (z_st m g) Q := y_wp_T (cd := q_c39) (cs := [3, 6, 11, 24, 30]) (ng := []) (sy := []) rfl 300 30 _ _ _ _ h
theorem y_40P : q_P 40 = (q_c40, 1) := rfl
theorem y_40 {m : z_M} {g : z_g} {Q : q_V → q_S → Prop} {a0 : Int} (h :
    z_ok a0 ∧
    (a0 < (0 : Int) →
      Q (.inl (0 : Int)) (z_st m g)) ∧
    ((0 : Int) ≤ a0 →
      z_ok2 a0 (6 : Int) ∧
      ((6 : Int) ≤ a0 →
        Q (.inl (0 : Int)) (z_st m g)) ∧
      (a0 < (6 : Int) →
        Q (.inl (1 : Int)) (z_st m g)))) :
    z_C 40 [.inl a0] (z_st m g) Q := y_C_wp (cs := []) (ng := []) (sy := []) (n := 300) y_40P h
theorem y_41P : q_P 41 = (q_c41, 1) := rfl
theorem y_41 {m : z_M} {g : z_g} {Q : q_V → q_S → Prop} {a0 : Int} (h :
    z_ok a0 ∧
    (a0 < (0 : Int) →
      Q (.inl (0 : Int)) (z_st m g)) ∧
    ((0 : Int) ≤ a0 →
      z_ok2 a0 (9 : Int) ∧
      ((9 : Int) < a0 →
        Q (.inl (0 : Int)) (z_st m g)) ∧
      (a0 ≤ (9 : Int) →
        Q (.inl (1 : Int)) (z_st m g)))) :
    z_C 41 [.inl a0] (z_st m g) Q := y_C_wp (cs := []) (ng := []) (sy := []) (n := 300) y_41P h
theorem y_42P : q_P 42 = (q_c42, 4) := rfl
theorem y_42 {m : z_M} {g : z_g} {Q : q_V → q_S → Prop} {a1 a2 a3 : Int} (h :
    z_ok2 (m 1 3) (6 : Int) ∧
    ((m 1 3) < (6 : Int) →
      z_in (m 1 3) 6 ∧
      z_in (m 1 3) 6 ∧
      z_in (m 1 3) 6 ∧
      z_rw (q_rfz g.1 g.2.1) 6 (m 1 3) 6 ∧
      q_nd [.inl (0 : Int), .inr (.inr (7 + (m 1 3).toNat))] ∧
      z_C 10 [.inr (.inr (7 + (m 1 3).toNat)), .inl (0 : Int)] (z_st (q_upd (q_upd (q_upd m 3 ((m 1 3).toNat) a1) 4 ((m 1 3).toNat) a2) 5 ((m 1 3).toNat) a3) g) (fun v S => z_T 42 33 [.inr (.inr 1), .inl a1, .inl a2, .inl a3] (q_push v []) S Q)) ∧
    ((6 : Int) ≤ (m 1 3) →
      Q (.inl (-4 : Int)) (z_st m g))) :
    z_C 42 [.inr (.inr 1), .inl a1, .inl a2, .inl a3] (z_st m g) Q := y_C_wp (cs := [33]) (ng := [32]) (sy := []) (n := 300) y_42P h
theorem y_42_33 {m : z_M} {g : z_g} {Q : q_V → q_S → Prop} {a1 a2 a3 : Int} (h :
    Q (.inl (((m 1 3) + (1 : Int)) - (1 : Int))) (z_st (q_upd m 1 3 ((m 1 3) + (1 : Int))) g)) :
    z_T 42 33 [.inr (.inr 1), .inl a1, .inl a2, .inl a3] [] (z_st m g) Q := y_wp_T (cd := q_c42) (cs := [33]) (ng := []) (sy := []) rfl 300 33 _ _ _ _ h
theorem y_43P : q_P 43 = (q_c43, 5) := rfl
theorem y_43 {m : z_M} {g : z_g} {Q : q_V → q_S → Prop} {a1 a2 a3 : Int} (h :
    z_C 44 [.inr (.inr 0), .inl a1, .inl a2] (z_st m g) (fun v S => z_T 43 4 [.inr (.inr 0), .inl a1, .inl a2, .inl a3, q_dead] (q_push v []) S Q)) :
    z_C 43 [.inr (.inr 0), .inl a1, .inl a2, .inl a3] (z_st m g) Q := y_C_wp (cs := [4, 29]) (ng := []) (sy := []) (n := 300) y_43P h
theorem y_43_4 {m : z_M} {g : z_g} {Q : q_V → q_S → Prop} {a1 a2 a3 s0 : Int} (h :
    z_ok s0 ∧
    (¬ s0 = (0 : Int) →
      z_ok a3 ∧
      (a3 < (0 : Int) →
        Q (.inl (-2 : Int)) (z_st m g)) ∧
      ((0 : Int) ≤ a3 →
        z_ok2 a3 (99 : Int) ∧
        (a3 ≤ (99 : Int) →
          z_rw (q_rfz g.1 g.2.1) 6 a1 6 ∧
          z_sp (q_sh0 ++ g.2.2.1) (7 + (a1).toNat) 0 13 ∧ z_in a2 13 ∧
          z_C 16 [.inr (.inr 109), .inl (1 : Int), .inl a1, .inl a2, .inl (m (7 + (a1).toNat) ((a2).toNat))] (z_st m g) (fun v S => z_T 43 29 [.inr (.inr 0), .inl a1, .inl a2, .inl a3, .inl (m (7 + (a1).toNat) ((a2).toNat))] (q_push v []) S Q)) ∧
        ((99 : Int) < a3 →
          Q (.inl (-2 : Int)) (z_st m g)))) ∧
    (s0 = (0 : Int) →
      Q (.inl (-1 : Int)) (z_st m g))) :
    z_T 43 4 [.inr (.inr 0), .inl a1, .inl a2, .inl a3, q_dead] [.inl s0] (z_st m g) Q := y_wp_T (cd := q_c43) (cs := [4, 29]) (ng := []) (sy := [(20, 13)]) rfl 300 4 _ _ _ _ h
theorem y_43_29 {m : z_M} {g : z_g} {Q : q_V → q_S → Prop} {a1 a2 a3 a4 : Int} (h :
    z_rw (q_rfz g.1 g.2.1) 6 a1 6 ∧
    z_sp (q_sh0 ++ g.2.2.1) (7 + (a1).toNat) 0 13 ∧ z_in a2 13 ∧
    Q (.inl a4) (z_st (q_upd m (7 + (a1).toNat) ((a2).toNat) a3) g)) :
    z_T 43 29 [.inr (.inr 0), .inl a1, .inl a2, .inl a3, .inl a4] [] (z_st m g) Q := y_wp_T (cd := q_c43) (cs := [4, 29]) (ng := []) (sy := [(36, 13)]) rfl 300 29 _ _ _ _ h
theorem y_44P : q_P 44 = (q_c44, 3) := rfl
theorem y_44 {m : z_M} {g : z_g} {Q : q_V → q_S → Prop} {a1 a2 : Int} (h :
    z_C 45 [.inr (.inr 0), .inl a1] (z_st m g) (fun v S => z_T 44 3 [.inr (.inr 0), .inl a1, .inl a2] (q_push v []) S Q)) :
    z_C 44 [.inr (.inr 0), .inl a1, .inl a2] (z_st m g) Q := y_C_wp (cs := [3, 13]) (ng := []) (sy := []) (n := 300) y_44P h
theorem y_44_3 {m : z_M} {g : z_g} {Q : q_V → q_S → Prop} {a1 a2 s0 : Int} (h :
    z_ok s0 ∧
    (s0 = (0 : Int) →
      Q (.inl (0 : Int)) (z_st m g)) ∧
    (¬ s0 = (0 : Int) →
      z_ok a2 ∧
      (a2 < (0 : Int) →
        Q (.inl (0 : Int)) (z_st m g)) ∧
      ((0 : Int) ≤ a2 →
        z_ok2 a2 (12 : Int) ∧
        ((12 : Int) < a2 →
          Q (.inl (0 : Int)) (z_st m g)) ∧
        (a2 ≤ (12 : Int) →
          z_C 46 [.inr (.inr 1), .inl a1] (z_st m g) (fun v S => z_T 44 13 [.inr (.inr 0), .inl a1, .inl a2] (q_push v []) S Q))))) :
    z_T 44 3 [.inr (.inr 0), .inl a1, .inl a2] [.inl s0] (z_st m g) Q := y_wp_T (cd := q_c44) (cs := [3, 13]) (ng := []) (sy := []) rfl 300 3 _ _ _ _ h
theorem y_44_13 {m : z_M} {g : z_g} {Q : q_V → q_S → Prop} {a1 a2 s0 : Int} (h :
    z_ok2 (q_bin 3 (q_bin 7 s0 a2) (1 : Int)) (1 : Int) ∧
    (¬ (q_bin 3 (q_bin 7 s0 a2) (1 : Int)) = (1 : Int) →
      Q (.inl (0 : Int)) (z_st m g)) ∧
    ((q_bin 3 (q_bin 7 s0 a2) (1 : Int)) = (1 : Int) →
      Q (.inl (1 : Int)) (z_st m g))) :
    z_T 44 13 [.inr (.inr 0), .inl a1, .inl a2] [.inl s0] (z_st m g) Q := y_wp_T (cd := q_c44) (cs := [3, 13]) (ng := []) (sy := []) rfl 300 13 _ _ _ _ h
theorem y_45P : q_P 45 = (q_c45, 2) := rfl
theorem y_45 {m : z_M} {g : z_g} {Q : q_V → q_S → Prop} {a1 : Int} (h :
    z_ok a1 ∧
    (a1 < (0 : Int) →
      Q (.inl (0 : Int)) (z_st m g)) ∧
    ((0 : Int) ≤ a1 →
      z_ok2 a1 (m 1 3) ∧
      ((m 1 3) ≤ a1 →
        Q (.inl (0 : Int)) (z_st m g)) ∧
      (a1 < (m 1 3) →
        Q (.inl (1 : Int)) (z_st m g)))) :
    z_C 45 [.inr (.inr 0), .inl a1] (z_st m g) Q := y_C_wp (cs := []) (ng := []) (sy := []) (n := 300) y_45P h
theorem y_46P : q_P 46 = (q_c46, 3) := rfl
theorem y_46 {m : z_M} {g : z_g} {Q : q_V → q_S → Prop} {a1 : Int} (h :
    z_ok a1 ∧
    (a1 < (0 : Int) →
      z_ok (-1 : Int) ∧
      ((-1 : Int) < (0 : Int) →
        Q (.inl (0 : Int)) (z_st m g)) ∧
      ((0 : Int) ≤ (-1 : Int) →
        z_ok2 (-1 : Int) (m 1 1) ∧
        ((-1 : Int) < (m 1 1) →
          z_in (-1 : Int) 6 ∧
          Q (.inl (m 2 0)) (z_st m g)) ∧
        ((m 1 1) ≤ (-1 : Int) →
          Q (.inl (0 : Int)) (z_st m g)))) ∧
    ((0 : Int) ≤ a1 →
      z_ok2 a1 (m 1 3) ∧
      (a1 < (m 1 3) →
        z_in a1 6 ∧
        z_ok (m 3 ((a1).toNat)) ∧
        ((m 3 ((a1).toNat)) < (0 : Int) →
          Q (.inl (0 : Int)) (z_st m g)) ∧
        ((0 : Int) ≤ (m 3 ((a1).toNat)) →
          z_ok2 (m 3 ((a1).toNat)) (m 1 1) ∧
          ((m 3 ((a1).toNat)) < (m 1 1) →
            z_in (m 3 ((a1).toNat)) 6 ∧
            Q (.inl (m 2 ((m 3 ((a1).toNat)).toNat))) (z_st m g)) ∧
          ((m 1 1) ≤ (m 3 ((a1).toNat)) →
            Q (.inl (0 : Int)) (z_st m g)))) ∧
      ((m 1 3) ≤ a1 →
        z_ok (-1 : Int) ∧
        ((-1 : Int) < (0 : Int) →
          Q (.inl (0 : Int)) (z_st m g)) ∧
        ((0 : Int) ≤ (-1 : Int) →
          z_ok2 (-1 : Int) (m 1 1) ∧
          ((-1 : Int) < (m 1 1) →
            z_in (-1 : Int) 6 ∧
            Q (.inl (m 2 0)) (z_st m g)) ∧
          ((m 1 1) ≤ (-1 : Int) →
            Q (.inl (0 : Int)) (z_st m g)))))) :
    z_C 46 [.inr (.inr 1), .inl a1] (z_st m g) Q := y_C_wp (cs := []) (ng := []) (sy := []) (n := 300) y_46P h
theorem y_47P : q_P 47 = (q_c47, 6) := rfl
theorem y_47 {m : z_M} {g : z_g} {Q : q_V → q_S → Prop} {a1 a2 a3 : Int} (h :
    z_C 45 [.inr (.inr 0), .inl a1] (z_st m g) (fun v S => z_T 47 3 [.inr (.inr 0), .inl a1, .inl a2, .inl a3, q_dead, q_dead] (q_push v []) S Q)) :
    z_C 47 [.inr (.inr 0), .inl a1, .inl a2, .inl a3] (z_st m g) Q := y_C_wp (cs := [3, 6, 11, 33]) (ng := []) (sy := []) (n := 300) y_47P h
theorem y_47_3 {m : z_M} {g : z_g} {Q : q_V → q_S → Prop} {a1 a2 a3 s0 : Int} (h :
    z_ok s0 ∧
    (s0 = (0 : Int) →
      Q (.inl (-1 : Int)) (z_st m g)) ∧
    (¬ s0 = (0 : Int) →
      z_C 40 [.inl a2] (z_st m g) (fun v S => z_T 47 6 [.inr (.inr 0), .inl a1, .inl a2, .inl a3, q_dead, q_dead] (q_push v []) S Q))) :
    z_T 47 3 [.inr (.inr 0), .inl a1, .inl a2, .inl a3, q_dead, q_dead] [.inl s0] (z_st m g) Q := y_wp_T (cd := q_c47) (cs := [3, 6, 11, 33]) (ng := []) (sy := []) rfl 300 3 _ _ _ _ h
theorem y_47_6 {m : z_M} {g : z_g} {Q : q_V → q_S → Prop} {a1 a2 a3 s0 : Int} (h :
    z_ok s0 ∧
    (¬ s0 = (0 : Int) →
      z_C 41 [.inl a3] (z_st m g) (fun v S => z_T 47 11 [.inr (.inr 0), .inl a1, .inl a2, .inl a3, q_dead, q_dead] (q_push v []) S Q)) ∧
    (s0 = (0 : Int) →
      Q (.inl (-1 : Int)) (z_st m g))) :
    z_T 47 6 [.inr (.inr 0), .inl a1, .inl a2, .inl a3, q_dead, q_dead] [.inl s0] (z_st m g) Q := y_wp_T (cd := q_c47) (cs := [3, 6, 11, 33]) (ng := []) (sy := []) rfl 300 6 _ _ _ _ h
theorem y_47_11 {m : z_M} {g : z_g} {Q : q_V → q_S → Prop} {a1 a2 a3 s0 : Int} (h :
    z_ok s0 ∧
    (¬ s0 = (0 : Int) →
      z_in a1 6 ∧
      z_in a1 6 ∧
      z_C 16 [.inr (.inr 109), .inl (2 : Int), .inl a1, .inl (m 4 ((a1).toNat)), .inl (m 5 ((a1).toNat))] (z_st m g) (fun v S => z_T 47 33 [.inr (.inr 0), .inl a1, .inl a2, .inl a3, .inl (m 4 ((a1).toNat)), .inl (m 5 ((a1).toNat))] (q_push v []) S Q)) ∧
    (s0 = (0 : Int) →
      Q (.inl (-2 : Int)) (z_st m g))) :
    z_T 47 11 [.inr (.inr 0), .inl a1, .inl a2, .inl a3, q_dead, q_dead] [.inl s0] (z_st m g) Q := y_wp_T (cd := q_c47) (cs := [3, 6, 11, 33]) (ng := []) (sy := []) rfl 300 11 _ _ _ _ h
theorem y_47_33 {m : z_M} {g : z_g} {Q : q_V → q_S → Prop} {a1 a2 a3 a4 a5 : Int} (h :
    z_in a1 6 ∧
    z_in a1 6 ∧
    Q (.inl (((10 : Int) * a4) + a5)) (z_st (q_upd (q_upd m 4 ((a1).toNat) a2) 5 ((a1).toNat) a3) g)) :
    z_T 47 33 [.inr (.inr 0), .inl a1, .inl a2, .inl a3, .inl a4, .inl a5] [] (z_st m g) Q := y_wp_T (cd := q_c47) (cs := [3, 6, 11, 33]) (ng := []) (sy := []) rfl 300 33 _ _ _ _ h
theorem y_48P : q_P 48 = (q_c48, 3) := rfl
theorem y_48 {m : z_M} {g : z_g} {Q : q_V → q_S → Prop} {a1 a2 : Int} (h :
    z_C 45 [.inr (.inr 0), .inl a1] (z_st m g) (fun v S => z_T 48 3 [.inr (.inr 0), .inl a1, .inl a2] (q_push v []) S Q)) :
    z_C 48 [.inr (.inr 0), .inl a1, .inl a2] (z_st m g) Q := y_C_wp (cs := [3, 9, 32, 36, 40, 46, 49]) (ng := []) (sy := []) (n := 300) y_48P h
theorem y_48_3 {m : z_M} {g : z_g} {Q : q_V → q_S → Prop} {a1 a2 s0 : Int} (h :
    z_ok s0 ∧
    (¬ s0 = (0 : Int) →
      z_C 49 [.inr (.inr 0), .inl a1] (z_st m g) (fun v S => z_T 48 9 [.inr (.inr 0), .inl a1, .inl a2] (q_push v []) S Q)) ∧
    (s0 = (0 : Int) →
      Q (.inl (-1 : Int)) (z_st m g))) :
    z_T 48 3 [.inr (.inr 0), .inl a1, .inl a2] [.inl s0] (z_st m g) Q := y_wp_T (cd := q_c48) (cs := [3, 9, 32, 36, 40, 46, 49]) (ng := []) (sy := []) rfl 300 3 _ _ _ _ h
theorem y_48_9 {m : z_M} {g : z_g} {Q : q_V → q_S → Prop} {a1 a2 : Int} (h :
    z_ok a2 ∧
    (a2 = (0 : Int) → z_in a1 6 ∧
      Q (.inl (m 3 ((a1).toNat))) (z_st m g)) ∧
    (¬ a2 = (0 : Int) → (a2 = (1 : Int) → z_in a1 6 ∧
      Q (.inl (m 4 ((a1).toNat))) (z_st m g)) ∧
    (¬ a2 = (1 : Int) → (a2 = (2 : Int) → z_in a1 6 ∧
      Q (.inl (m 5 ((a1).toNat))) (z_st m g)) ∧
    (¬ a2 = (2 : Int) → (a2 = (3 : Int) → z_C 59 [.inr (.inr 65)] (z_st m g) (fun v S => z_T 48 32 [.inr (.inr 0), .inl a1, .inl a2] (q_push v []) S Q)) ∧
    (¬ a2 = (3 : Int) → (a2 = (4 : Int) → z_C 62 [.inr (.inr 65)] (z_st m g) (fun v S => z_T 48 36 [.inr (.inr 0), .inl a1, .inl a2] (q_push v []) S Q)) ∧
    (¬ a2 = (4 : Int) → (a2 = (5 : Int) → z_C 65 [.inr (.inr 65)] (z_st m g) (fun v S => z_T 48 40 [.inr (.inr 0), .inl a1, .inl a2] (q_push v []) S Q)) ∧
    (¬ a2 = (5 : Int) → (a2 = (6 : Int) → z_C 66 [.inr (.inr 70), .inr (.inr 65)] (z_st m g) (fun v S => z_T 48 46 [.inr (.inr 0), .inl a1, .inl a2] (q_push v []) S Q)) ∧
    (¬ a2 = (6 : Int) → Q (.inl (-1 : Int)) (z_st m g))))))))) :
    z_T 48 9 [.inr (.inr 0), .inl a1, .inl a2] [] (z_st m g) Q := y_wp_T (cd := q_c48) (cs := [3, 9, 32, 36, 40, 46, 49]) (ng := []) (sy := []) rfl 300 9 _ _ _ _ h
theorem y_48_32 {m : z_M} {g : z_g} {Q : q_V → q_S → Prop} {a1 a2 s0 : Int} (h :
    Q (.inl s0) (z_st m g)) :
    z_T 48 32 [.inr (.inr 0), .inl a1, .inl a2] [.inl s0] (z_st m g) Q := y_wp_T (cd := q_c48) (cs := [3, 9, 32, 36, 40, 46, 49]) (ng := []) (sy := []) rfl 300 32 _ _ _ _ h
theorem y_48_36 {m : z_M} {g : z_g} {Q : q_V → q_S → Prop} {a1 a2 s0 : Int} (h :
    Q (.inl s0) (z_st m g)) :
    z_T 48 36 [.inr (.inr 0), .inl a1, .inl a2] [.inl s0] (z_st m g) Q := y_wp_T (cd := q_c48) (cs := [3, 9, 32, 36, 40, 46, 49]) (ng := []) (sy := []) rfl 300 36 _ _ _ _ h
theorem y_48_40 {m : z_M} {g : z_g} {Q : q_V → q_S → Prop} {a1 a2 s0 : Int} (h :
    Q (.inl s0) (z_st m g)) :
    z_T 48 40 [.inr (.inr 0), .inl a1, .inl a2] [.inl s0] (z_st m g) Q := y_wp_T (cd := q_c48) (cs := [3, 9, 32, 36, 40, 46, 49]) (ng := []) (sy := []) rfl 300 40 _ _ _ _ h
theorem y_48_46 {m : z_M} {g : z_g} {Q : q_V → q_S → Prop} {a1 a2 : Int} (h :
    z_C 69 [.inr (.inr 70)] (z_st m g) (fun v S => z_T 48 49 [.inr (.inr 0), .inl a1, .inl a2] (q_push v []) S Q)) :
    z_T 48 46 [.inr (.inr 0), .inl a1, .inl a2] [] (z_st m g) Q := y_wp_T (cd := q_c48) (cs := [3, 9, 32, 36, 40, 46, 49]) (ng := []) (sy := []) rfl 300 46 _ _ _ _ h
theorem y_48_49 {m : z_M} {g : z_g} {Q : q_V → q_S → Prop} {a1 a2 : Int} (h :
    z_ok (m 70 6) ∧
    ((0 : Int) ≤ (m 70 6) →
      Q (.inl (m 70 6)) (z_st m g)) ∧
    ((m 70 6) < (0 : Int) →
      Q (.inl (-5 : Int)) (z_st m g))) :
    z_T 48 49 [.inr (.inr 0), .inl a1, .inl a2] [] (z_st m g) Q := y_wp_T (cd := q_c48) (cs := [3, 9, 32, 36, 40, 46, 49]) (ng := []) (sy := []) rfl 300 49 _ _ _ _ h
theorem y_49P : q_P 49 = (q_c49, 2) := rfl
theorem y_49 {m : z_M} {g : z_g} {Q : q_V → q_S → Prop} {a1 : Int} (h :
    z_C 50 [.inr (.inr 1)] (z_st m g) (fun v S => z_T 49 5 [.inr (.inr 0), .inl a1] (q_push v [.inr (.inr 29)]) S Q)) :
    z_C 49 [.inr (.inr 0), .inl a1] (z_st m g) Q := y_C_wp (cs := [5, 6, 12]) (ng := []) (sy := []) (n := 300) y_49P h
theorem y_49_5 {m : z_M} {g : z_g} {Q : q_V → q_S → Prop} {a1 s0 : Int} (h :
    z_C 51 [.inr (.inr 29), .inl s0] (z_st m g) (fun v S => z_T 49 6 [.inr (.inr 0), .inl a1] (q_push v []) S Q)) :
    z_T 49 5 [.inr (.inr 0), .inl a1] [.inl s0, .inr (.inr 29)] (z_st m g) Q := y_wp_T (cd := q_c49) (cs := [5, 6, 12]) (ng := []) (sy := []) rfl 300 5 _ _ _ _ h
theorem y_49_6 {m : z_M} {g : z_g} {Q : q_V → q_S → Prop} {a1 : Int} (h :
    z_C 55 [.inr (.inr 65), .inr (.inr 1), .inl a1] (z_st m g) (fun v S => z_T 49 12 [.inr (.inr 0), .inl a1] (q_push v []) S Q)) :
    z_T 49 6 [.inr (.inr 0), .inl a1] [] (z_st m g) Q := y_wp_T (cd := q_c49) (cs := [5, 6, 12]) (ng := []) (sy := []) rfl 300 6 _ _ _ _ h
theorem y_49_12 {m : z_M} {g : z_g} {Q : q_V → q_S → Prop} {a1 : Int} (h :
    Q q_dead (z_st m g)) :
    z_T 49 12 [.inr (.inr 0), .inl a1] [] (z_st m g) Q := y_wp_T (cd := q_c49) (cs := [5, 6, 12]) (ng := []) (sy := []) rfl 300 12 _ _ _ _ h
theorem y_50P : q_P 50 = (q_c50, 1) := rfl
theorem y_50 {m : z_M} {g : z_g} {Q : q_V → q_S → Prop} (h :
    z_ok (m 1 0) ∧
    ((m 1 0) < (0 : Int) →
      Q (.inl (0 : Int)) (z_st m g)) ∧
    ((0 : Int) ≤ (m 1 0) →
      z_ok2 (m 1 0) (9 : Int) ∧
      ((m 1 0) < (9 : Int) →
        z_in (m 1 0) 9 ∧
        Q (.inl (m 1002 ((m 1 0).toNat))) (z_st m g)) ∧
      ((9 : Int) ≤ (m 1 0) →
        Q (.inl (0 : Int)) (z_st m g)))) :
    z_C 50 [.inr (.inr 1)] (z_st m g) Q := y_C_wp (cs := []) (ng := []) (sy := []) (n := 300) y_50P h
theorem y_51P : q_P 51 = (q_c51, 4) := rfl
theorem y_51 {m : z_M} {g : z_g} {Q : q_V → q_S → Prop} {a1 : Int} (h :
    z_ok2 a1 (m 29 0) ∧
    (¬ a1 = (m 29 0) →
      z_T 51 10 [.inr (.inr 29), .inl a1, .inl (0 : Int), q_dead] [] (z_st (q_upd m 29 0 a1) g) Q) ∧
    (a1 = (m 29 0) →
      Q q_dead (z_st m g))) :
    z_C 51 [.inr (.inr 29), .inl a1] (z_st m g) Q := y_C_wp (cs := [10, 28, 48, 57]) (ng := []) (sy := []) (n := 300) y_51P h
theorem y_51_10 {m : z_M} {g : z_g} {Q : q_V → q_S → Prop} {a1 a2 : Int} {da3 : q_V} (h :
    z_ok2 a2 (m 29 0) ∧
    ((m 29 0) ≤ a2 →
      Q q_dead (z_st m g)) ∧
    (a2 < (m 29 0) →
      z_ok2 a2 (31 : Int) ∧
      ((31 : Int) ≤ a2 →
        Q q_dead (z_st m g)) ∧
      (a2 < (31 : Int) →
        z_rw (q_rfz g.1 g.2.1) 30 a2 31 ∧
        z_sp (q_sh0 ++ g.2.2.1) (31 + (a2).toNat) 0 13 ∧ z_in (0 : Int) 13 ∧
        z_T 51 28 [.inr (.inr 29), .inl a1, .inl a2, .inl (1 : Int)] [] (z_st (q_upd m (31 + (a2).toNat) 0 (1 : Int)) g) Q))) :
    z_T 51 10 [.inr (.inr 29), .inl a1, .inl a2, da3] [] (z_st m g) Q := y_wp_T (cd := q_c51) (cs := [10, 28, 48, 57]) (ng := []) (sy := [(25, 13)]) rfl 300 10 _ _ _ _ h
theorem y_51_28 {m : z_M} {g : z_g} {Q : q_V → q_S → Prop} {a1 a2 a3 : Int} (h :
    z_ok2 a3 (12 : Int) ∧
    ((12 : Int) < a3 →
      z_C 54 [.inr (.inr 29), .inl a2] (z_st m g) (fun v S => z_T 51 57 [.inr (.inr 29), .inl a1, .inl a2, .inl a3] (q_push v [.inl a2, .inr (.inr 62)]) S Q)) ∧
    (a3 ≤ (12 : Int) →
      z_rw (q_rfz g.1 g.2.1) 30 a2 31 ∧
      z_rw (q_rfz g.1 g.2.1) 30 a2 31 ∧
      z_sp (q_sh0 ++ g.2.2.1) (31 + (a2).toNat) 0 13 ∧ z_in (a3 - (1 : Int)) 13 ∧
      z_C 52 [.inr (.inr 29), .inl ((m (31 + (a2).toNat) ((a3 - (1 : Int)).toNat)) * a2)] (z_st m g) (fun v S => z_T 51 48 [.inr (.inr 29), .inl a1, .inl a2, .inl a3] (q_push v [.inl a3, .inr (.inr (31 + (a2).toNat))]) S Q))) :
    z_T 51 28 [.inr (.inr 29), .inl a1, .inl a2, .inl a3] [] (z_st m g) Q := y_wp_T (cd := q_c51) (cs := [10, 28, 48, 57]) (ng := []) (sy := [(44, 13)]) rfl 300 28 _ _ _ _ h
theorem y_51_48 {m : z_M} {g : z_g} {Q : q_V → q_S → Prop} {a1 a2 a3 s0 s1 : Int} {os2 : Nat} (h :
    z_sp (q_sh0 ++ g.2.2.1) os2 0 13 ∧ z_in s1 13 ∧
    z_T 51 28 [.inr (.inr 29), .inl a1, .inl a2, .inl (a3 + (1 : Int))] [] (z_st (q_upd m os2 ((s1).toNat) s0) g) Q) :
    z_T 51 48 [.inr (.inr 29), .inl a1, .inl a2, .inl a3] [.inl s0, .inl s1, .inr (.inr os2)] (z_st m g) Q := y_wp_T (cd := q_c51) (cs := [10, 28, 48, 57]) (ng := []) (sy := [(48, 13)]) rfl 300 48 _ _ _ _ h
theorem y_51_57 {m : z_M} {g : z_g} {Q : q_V → q_S → Prop} {a1 a2 a3 s0 s1 : Int} (h :
    z_in s1 31 ∧
    z_T 51 10 [.inr (.inr 29), .inl a1, .inl (a2 + (1 : Int)), .inl a3] [] (z_st (q_upd m 62 ((s1).toNat) s0) g) Q) :
    z_T 51 57 [.inr (.inr 29), .inl a1, .inl a2, .inl a3] [.inl s0, .inl s1, .inr (.inr 62)] (z_st m g) Q := y_wp_T (cd := q_c51) (cs := [10, 28, 48, 57]) (ng := []) (sy := []) rfl 300 57 _ _ _ _ h
theorem y_52P : q_P 52 = (q_c52, 2) := rfl
theorem y_52 {m : z_M} {g : z_g} {Q : q_V → q_S → Prop} {a1 : Int} (h :
    z_ok2 (m 29 0) (1 : Int) ∧
    ((1 : Int) ≤ (m 29 0) →
      z_C 53 [.inl a1, .inl (m 29 0)] (z_st m g) (fun v S => z_T 52 10 [.inr (.inr 29), .inl a1] (q_push v []) S Q)) ∧
    ((m 29 0) < (1 : Int) →
      z_T 52 10 [.inr (.inr 29), .inl a1] [.inl (0 : Int)] (z_st m g) Q)) :
    z_C 52 [.inr (.inr 29), .inl a1] (z_st m g) Q := y_C_wp (cs := [10]) (ng := []) (sy := []) (n := 300) y_52P h
theorem y_52_10 {m : z_M} {g : z_g} {Q : q_V → q_S → Prop} {a1 s0 : Int} (h :
    Q (.inl s0) (z_st m g)) :
    z_T 52 10 [.inr (.inr 29), .inl a1] [.inl s0] (z_st m g) Q := y_wp_T (cd := q_c52) (cs := [10]) (ng := []) (sy := []) rfl 300 10 _ _ _ _ h
theorem y_53P : q_P 53 = (q_c53, 3) := rfl
theorem y_53 {m : z_M} {g : z_g} {Q : q_V → q_S → Prop} {a0 a1 : Int} (h :
    z_dw a0 a1 ∧
    z_ok (q_bin 5 a0 a1) ∧
    ((0 : Int) ≤ (q_bin 5 a0 a1) →
      Q (.inl ((a0).tmod a1)) (z_st m g)) ∧
    ((q_bin 5 a0 a1) < (0 : Int) →
      z_ok ((a0).tmod a1) ∧
      (((a0).tmod a1) = (0 : Int) →
        Q (.inl ((a0).tmod a1)) (z_st m g)) ∧
      (¬ ((a0).tmod a1) = (0 : Int) →
        Q (.inl (((a0).tmod a1) + a1)) (z_st m g)))) :
    z_C 53 [.inl a0, .inl a1] (z_st m g) Q := y_C_wp (cs := []) (ng := [2]) (sy := []) (n := 300) y_53P h
theorem y_54P : q_P 54 = (q_c54, 3) := rfl
theorem y_54 {m : z_M} {g : z_g} {Q : q_V → q_S → Prop} {a1 : Int} (h :
    z_T 54 2 [.inr (.inr 29), .inl a1, .inl (1 : Int)] [] (z_st m g) Q) :
    z_C 54 [.inr (.inr 29), .inl a1] (z_st m g) Q := y_C_wp (cs := [2, 11]) (ng := []) (sy := []) (n := 300) y_54P h
theorem y_54_2 {m : z_M} {g : z_g} {Q : q_V → q_S → Prop} {a1 a2 : Int} (h :
    z_ok2 a2 (m 29 0) ∧
    ((m 29 0) ≤ a2 →
      Q (.inl (0 : Int)) (z_st m g)) ∧
    (a2 < (m 29 0) →
      z_C 52 [.inr (.inr 29), .inl (a1 * a2)] (z_st m g) (fun v S => z_T 54 11 [.inr (.inr 29), .inl a1, .inl a2] (q_push v []) S Q))) :
    z_T 54 2 [.inr (.inr 29), .inl a1, .inl a2] [] (z_st m g) Q := y_wp_T (cd := q_c54) (cs := [2, 11]) (ng := []) (sy := []) rfl 300 2 _ _ _ _ h
theorem y_54_11 {m : z_M} {g : z_g} {Q : q_V → q_S → Prop} {a1 a2 s0 : Int} (h :
    z_ok2 s0 (1 : Int) ∧
    (¬ s0 = (1 : Int) →
      z_T 54 2 [.inr (.inr 29), .inl a1, .inl (a2 + (1 : Int))] [] (z_st m g) Q) ∧
    (s0 = (1 : Int) →
      Q (.inl a2) (z_st m g))) :
    z_T 54 11 [.inr (.inr 29), .inl a1, .inl a2] [.inl s0] (z_st m g) Q := y_wp_T (cd := q_c54) (cs := [2, 11]) (ng := []) (sy := []) rfl 300 11 _ _ _ _ h
theorem y_55P : q_P 55 = (q_c55, 4) := rfl
theorem y_55 {m : z_M} {g : z_g} {Q : q_V → q_S → Prop} {a2 : Int} (h :
    z_ok a2 ∧
    (a2 < (0 : Int) →
      z_C 56 [.inr (.inr 65), .inl (0 : Int)] (z_st m g) (fun v S => z_T 55 9 [.inr (.inr 65), .inr (.inr 1), .inl a2, q_dead] (q_push v []) S Q)) ∧
    ((0 : Int) ≤ a2 →
      z_ok2 a2 (m 1 3) ∧
      (a2 < (m 1 3) →
        z_C 46 [.inr (.inr 1), .inl a2] (z_st m g) (fun v S => z_T 55 14 [.inr (.inr 65), .inr (.inr 1), .inl a2, q_dead] (q_push v [.inr (.inr 65)]) S Q)) ∧
      ((m 1 3) ≤ a2 →
        z_C 56 [.inr (.inr 65), .inl (0 : Int)] (z_st m g) (fun v S => z_T 55 9 [.inr (.inr 65), .inr (.inr 1), .inl a2, q_dead] (q_push v []) S Q)))) :
    z_C 55 [.inr (.inr 65), .inr (.inr 1), .inl a2] (z_st m g) Q := y_C_wp (cs := [9, 14, 15, 29, 44, 46]) (ng := []) (sy := []) (n := 300) y_55P h
theorem y_55_9 {m : z_M} {g : z_g} {Q : q_V → q_S → Prop} {a2 : Int} (h :
    Q q_dead (z_st m g)) :
    z_T 55 9 [.inr (.inr 65), .inr (.inr 1), .inl a2, q_dead] [] (z_st m g) Q := y_wp_T (cd := q_c55) (cs := [9, 14, 15, 29, 44, 46]) (ng := []) (sy := []) rfl 300 9 _ _ _ _ h
theorem y_55_14 {m : z_M} {g : z_g} {Q : q_V → q_S → Prop} {a2 s0 : Int} (h :
    z_C 56 [.inr (.inr 65), .inl s0] (z_st m g) (fun v S => z_T 55 15 [.inr (.inr 65), .inr (.inr 1), .inl a2, q_dead] (q_push v []) S Q)) :
    z_T 55 14 [.inr (.inr 65), .inr (.inr 1), .inl a2, q_dead] [.inl s0, .inr (.inr 65)] (z_st m g) Q := y_wp_T (cd := q_c55) (cs := [9, 14, 15, 29, 44, 46]) (ng := []) (sy := []) rfl 300 14 _ _ _ _ h
theorem y_55_15 {m : z_M} {g : z_g} {Q : q_V → q_S → Prop} {a2 : Int} (h :
    z_in a2 6 ∧
    z_in a2 6 ∧
    z_T 55 29 [.inr (.inr 65), .inr (.inr 1), .inl a2, .inl (0 : Int)] [] (z_st (q_upd (q_upd m 65 4 (m 4 ((a2).toNat))) 65 5 (m 5 ((a2).toNat))) g) Q) :
    z_T 55 15 [.inr (.inr 65), .inr (.inr 1), .inl a2, q_dead] [] (z_st m g) Q := y_wp_T (cd := q_c55) (cs := [9, 14, 15, 29, 44, 46]) (ng := []) (sy := []) rfl 300 15 _ _ _ _ h
theorem y_55_29 {m : z_M} {g : z_g} {Q : q_V → q_S → Prop} {a2 a3 : Int} (h :
    z_ok2 a3 (m 66 1) ∧
    ((m 66 1) ≤ a3 →
      Q q_dead (z_st m g)) ∧
    (a3 < (m 66 1) →
      z_rw (q_rfz g.1 g.2.1) 6 a2 6 ∧
      z_C 28 [.inr (.inr 66), .inl a3] (z_st m g) (fun v S => z_T 55 44 [.inr (.inr 65), .inr (.inr 1), .inl a2, .inl a3] (q_push v [.inr (.inr (7 + (a2).toNat)), .inl a3, .inr (.inr 65)]) S Q))) :
    z_T 55 29 [.inr (.inr 65), .inr (.inr 1), .inl a2, .inl a3] [] (z_st m g) Q := y_wp_T (cd := q_c55) (cs := [9, 14, 15, 29, 44, 46]) (ng := []) (sy := []) rfl 300 29 _ _ _ _ h
theorem y_55_44 {m : z_M} {g : z_g} {Q : q_V → q_S → Prop} {a2 a3 s0 s2 : Int} {os1 : Nat} (h :
    z_sp (q_sh0 ++ g.2.2.1) os1 0 13 ∧ z_in s0 13 ∧
    z_C 57 [.inr (.inr 65), .inl s2, .inl (m os1 ((s0).toNat))] (z_st m g) (fun v S => z_T 55 46 [.inr (.inr 65), .inr (.inr 1), .inl a2, .inl a3] (q_push v []) S Q)) :
    z_T 55 44 [.inr (.inr 65), .inr (.inr 1), .inl a2, .inl a3] [.inl s0, .inr (.inr os1), .inl s2, .inr (.inr 65)] (z_st m g) Q := y_wp_T (cd := q_c55) (cs := [9, 14, 15, 29, 44, 46]) (ng := []) (sy := [(44, 13)]) rfl 300 44 _ _ _ _ h
theorem y_55_46 {m : z_M} {g : z_g} {Q : q_V → q_S → Prop} {a2 a3 : Int} (h :
    z_T 55 29 [.inr (.inr 65), .inr (.inr 1), .inl a2, .inl (a3 + (1 : Int))] [] (z_st m g) Q) :
    z_T 55 46 [.inr (.inr 65), .inr (.inr 1), .inl a2, .inl a3] [] (z_st m g) Q := y_wp_T (cd := q_c55) (cs := [9, 14, 15, 29, 44, 46]) (ng := []) (sy := []) rfl 300 46 _ _ _ _ h
theorem y_56P : q_P 56 = (q_c56, 2) := rfl
theorem y_56 {m : z_M} {g : z_g} {Q : q_V → q_S → Prop} {a1 : Int} (h :
    z_C 25 [.inr (.inr 66), .inl a1] (z_st m g) (fun v S => z_T 56 4 [.inr (.inr 65), .inl a1] (q_push v []) S Q)) :
    z_C 56 [.inr (.inr 65), .inl a1] (z_st m g) Q := y_C_wp (cs := [4, 14]) (ng := []) (sy := []) (n := 300) y_56P h
theorem y_56_4 {m : z_M} {g : z_g} {Q : q_V → q_S → Prop} {a1 : Int} (h :
    z_C 10 [.inr (.inr 68), .inl (0 : Int)] (z_st (q_upd (q_upd m 65 4 (0 : Int)) 65 5 (0 : Int)) g) (fun v S => z_T 56 14 [.inr (.inr 65), .inl a1] (q_push v []) S Q)) :
    z_T 56 4 [.inr (.inr 65), .inl a1] [] (z_st m g) Q := y_wp_T (cd := q_c56) (cs := [4, 14]) (ng := []) (sy := []) rfl 300 4 _ _ _ _ h
theorem y_56_14 {m : z_M} {g : z_g} {Q : q_V → q_S → Prop} {a1 : Int} (h :
    Q q_dead (z_st m g)) :
    z_T 56 14 [.inr (.inr 65), .inl a1] [] (z_st m g) Q := y_wp_T (cd := q_c56) (cs := [4, 14]) (ng := []) (sy := []) rfl 300 14 _ _ _ _ h
theorem y_57P : q_P 57 = (q_c57, 3) := rfl
theorem y_57 {m : z_M} {g : z_g} {Q : q_V → q_S → Prop} {a1 a2 : Int} (h :
    z_ok a1 ∧
    (a1 < (0 : Int) →
      Q q_dead (z_st m g)) ∧
    ((0 : Int) ≤ a1 →
      z_ok2 a1 (m 66 1) ∧
      ((m 66 1) ≤ a1 →
        Q q_dead (z_st m g)) ∧
      (a1 < (m 66 1) →
        z_C 28 [.inr (.inr 66), .inl a1] (z_st m g) (fun v S => z_T 57 17 [.inr (.inr 65), .inl a1, .inl a2] (q_push v [.inr (.inr 65), .inr (.inr 29), .inl a1, .inr (.inr 68)]) S Q)))) :
    z_C 57 [.inr (.inr 65), .inl a1, .inl a2] (z_st m g) Q := y_C_wp (cs := [17, 19, 20]) (ng := []) (sy := []) (n := 300) y_57P h
theorem y_57_17 {m : z_M} {g : z_g} {Q : q_V → q_S → Prop} {a1 a2 s0 s3 : Int} (h :
    z_C 58 [.inr (.inr 65), .inl s0, .inl a2] (z_st m g) (fun v S => z_T 57 19 [.inr (.inr 65), .inl a1, .inl a2] (q_push v [.inr (.inr 29), .inl s3, .inr (.inr 68)]) S Q)) :
    z_T 57 17 [.inr (.inr 65), .inl a1, .inl a2] [.inl s0, .inr (.inr 65), .inr (.inr 29), .inl s3, .inr (.inr 68)] (z_st m g) Q := y_wp_T (cd := q_c57) (cs := [17, 19, 20]) (ng := []) (sy := []) rfl 300 17 _ _ _ _ h
theorem y_57_19 {m : z_M} {g : z_g} {Q : q_V → q_S → Prop} {a1 a2 s0 s2 : Int} (h :
    z_C 52 [.inr (.inr 29), .inl s0] (z_st m g) (fun v S => z_T 57 20 [.inr (.inr 65), .inl a1, .inl a2] (q_push v [.inl s2, .inr (.inr 68)]) S Q)) :
    z_T 57 19 [.inr (.inr 65), .inl a1, .inl a2] [.inl s0, .inr (.inr 29), .inl s2, .inr (.inr 68)] (z_st m g) Q := y_wp_T (cd := q_c57) (cs := [17, 19, 20]) (ng := []) (sy := []) rfl 300 19 _ _ _ _ h
theorem y_57_20 {m : z_M} {g : z_g} {Q : q_V → q_S → Prop} {a1 a2 s0 s1 : Int} (h :
    z_in s1 6 ∧
    Q q_dead (z_st (q_upd m 68 ((s1).toNat) s0) g)) :
    z_T 57 20 [.inr (.inr 65), .inl a1, .inl a2] [.inl s0, .inl s1, .inr (.inr 68)] (z_st m g) Q := y_wp_T (cd := q_c57) (cs := [17, 19, 20]) (ng := []) (sy := []) rfl 300 20 _ _ _ _ h
theorem y_58P : q_P 58 = (q_c58, 5) := rfl
theorem y_58 {m : z_M} {g : z_g} {Q : q_V → q_S → Prop} {a1 a2 : Int} (h :
    z_dv a1 (2 : Int) ∧
    z_ok2 (a1 % (2 : Int)) (1 : Int) ∧
    (¬ (a1 % (2 : Int)) = (1 : Int) →
      z_ok (m 65 4) ∧
      ((m 65 4) = (1 : Int) → Q (.inl a2) (z_st m g)) ∧
      (¬ (m 65 4) = (1 : Int) → ((m 65 4) = (2 : Int) → Q (.inl (a2 * ((m 65 5) + (1 : Int)))) (z_st m g)) ∧
      (¬ (m 65 4) = (2 : Int) → ((m 65 4) = (3 : Int) → Q (.inl (a2 * (a1 + (m 65 5)))) (z_st m g)) ∧
      (¬ (m 65 4) = (3 : Int) → ((m 65 4) = (4 : Int) → z_C 27 [.inr (.inr 66)] (z_st m g) (fun v S => z_T 58 35 [.inr (.inr 65), .inl a1, .inl a2, .inl a2, .inl (a2 * ((m 65 5) + (1 : Int)))] (q_push v [.inl a1]) S Q)) ∧
      (¬ (m 65 4) = (4 : Int) → ((m 65 4) = (5 : Int) → Q (.inl (a1 * a2)) (z_st m g)) ∧
      (¬ (m 65 4) = (5 : Int) → Q (.inl a2) (z_st m g))))))) ∧
    ((a1 % (2 : Int)) = (1 : Int) →
      z_ok (m 65 4) ∧
      ((m 65 4) = (1 : Int) → Q (.inl (-a2)) (z_st m g)) ∧
      (¬ (m 65 4) = (1 : Int) → ((m 65 4) = (2 : Int) → Q (.inl (a2 * ((m 65 5) + (1 : Int)))) (z_st m g)) ∧
      (¬ (m 65 4) = (2 : Int) → ((m 65 4) = (3 : Int) → Q (.inl ((-a2) * (a1 + (m 65 5)))) (z_st m g)) ∧
      (¬ (m 65 4) = (3 : Int) → ((m 65 4) = (4 : Int) → z_C 27 [.inr (.inr 66)] (z_st m g) (fun v S => z_T 58 35 [.inr (.inr 65), .inl a1, .inl a2, .inl (-a2), .inl (a2 * ((m 65 5) + (1 : Int)))] (q_push v [.inl a1]) S Q)) ∧
      (¬ (m 65 4) = (4 : Int) → ((m 65 4) = (5 : Int) → Q (.inl (a1 * a2)) (z_st m g)) ∧
      (¬ (m 65 4) = (5 : Int) → Q (.inl a2) (z_st m g)))))))) :
    z_C 58 [.inr (.inr 65), .inl a1, .inl a2] (z_st m g) Q := y_C_wp (cs := [35]) (ng := []) (sy := []) (n := 300) y_58P h
theorem y_58_35 {m : z_M} {g : z_g} {Q : q_V → q_S → Prop} {a1 a2 a3 a4 s0 s1 : Int} (h :
    z_ok2 s1 s0 ∧
    (¬ s1 = s0 →
      Q (.inl a4) (z_st m g)) ∧
    (s1 = s0 →
      Q (.inl (0 : Int)) (z_st m g))) :
    z_T 58 35 [.inr (.inr 65), .inl a1, .inl a2, .inl a3, .inl a4] [.inl s0, .inl s1] (z_st m g) Q := y_wp_T (cd := q_c58) (cs := [35]) (ng := []) (sy := []) rfl 300 35 _ _ _ _ h
theorem y_59P : q_P 59 = (q_c59, 3) := rfl
theorem y_59 {m : z_M} {g : z_g} {Q : q_V → q_S → Prop} (h :
    z_T 59 4 [.inr (.inr 65), .inl (0 : Int), .inl (1 : Int)] [] (z_st m g) Q) :
    z_C 59 [.inr (.inr 65)] (z_st m g) Q := y_C_wp (cs := [4, 12]) (ng := []) (sy := []) (n := 300) y_59P h
theorem y_59_4 {m : z_M} {g : z_g} {Q : q_V → q_S → Prop} {a1 a2 : Int} (h :
    z_ok2 a2 (m 29 0) ∧
    ((m 29 0) ≤ a2 →
      Q (.inl a1) (z_st m g)) ∧
    (a2 < (m 29 0) →
      z_C 60 [.inr (.inr 65), .inl a2] (z_st m g) (fun v S => z_T 59 12 [.inr (.inr 65), .inl a1, .inl a2] (q_push v []) S Q))) :
    z_T 59 4 [.inr (.inr 65), .inl a1, .inl a2] [] (z_st m g) Q := y_wp_T (cd := q_c59) (cs := [4, 12]) (ng := []) (sy := []) rfl 300 4 _ _ _ _ h
theorem y_59_12 {m : z_M} {g : z_g} {Q : q_V → q_S → Prop} {a1 a2 s0 : Int} (h :
    z_ok s0 ∧
    (¬ s0 = (0 : Int) →
      z_T 59 4 [.inr (.inr 65), .inl a1, .inl (a2 + (1 : Int))] [] (z_st m g) Q) ∧
    (s0 = (0 : Int) →
      z_T 59 4 [.inr (.inr 65), .inl (q_bin 4 a1 (q_bin 6 (1 : Int) a2)), .inl (a2 + (1 : Int))] [] (z_st m g) Q)) :
    z_T 59 12 [.inr (.inr 65), .inl a1, .inl a2] [.inl s0] (z_st m g) Q := y_wp_T (cd := q_c59) (cs := [4, 12]) (ng := []) (sy := []) rfl 300 12 _ _ _ _ h
theorem y_60P : q_P 60 = (q_c60, 5) := rfl
theorem y_60 {m : z_M} {g : z_g} {Q : q_V → q_S → Prop} {a1 : Int} (h :
    z_C 61 [.inr (.inr 29), .inl a1] (z_st m g) (fun v S => z_T 60 4 [.inr (.inr 65), .inl a1, q_dead, q_dead, q_dead] (q_push v []) S Q)) :
    z_C 60 [.inr (.inr 65), .inl a1] (z_st m g) Q := y_C_wp (cs := [4, 9, 24, 34]) (ng := []) (sy := []) (n := 300) y_60P h
theorem y_60_4 {m : z_M} {g : z_g} {Q : q_V → q_S → Prop} {a1 : Int} {os0 : Nat} (h :
    os0 < 1000 ∧
    z_T 60 9 [.inr (.inr 65), .inl a1, .inr (.inr os0), .inl (0 : Int), .inl (0 : Int)] [] (z_st m g) Q) :
    z_T 60 4 [.inr (.inr 65), .inl a1, q_dead, q_dead, q_dead] [.inr (.inr os0)] (z_st m g) Q := y_wp_T (cd := q_c60) (cs := [4, 9, 24, 34]) (ng := [4]) (sy := []) rfl 300 4 _ _ _ _ h
theorem y_60_9 {m : z_M} {g : z_g} {Q : q_V → q_S → Prop} {a1 a3 a4 : Int} {oa2 : Nat} (h :
    z_ok2 a4 (m 66 1) ∧
    ((m 66 1) ≤ a4 →
      z_C 52 [.inr (.inr 29), .inl a3] (z_st m g) (fun v S => z_T 60 34 [.inr (.inr 65), .inl a1, .inr (.inr oa2), .inl a3, .inl a4] (q_push v []) S Q)) ∧
    (a4 < (m 66 1) →
      z_in a4 6 ∧
      oa2 < 1000 ∧
      z_C 28 [.inr (.inr 66), .inl a4] (z_st m g) (fun v S => z_T 60 24 [.inr (.inr 65), .inl a1, .inr (.inr oa2), .inl a3, .inl a4] (q_push v [.inr (.inr oa2), .inl (m 68 ((a4).toNat)), .inl a3]) S Q))) :
    z_T 60 9 [.inr (.inr 65), .inl a1, .inr (.inr oa2), .inl a3, .inl a4] [] (z_st m g) Q := y_wp_T (cd := q_c60) (cs := [4, 9, 24, 34]) (ng := [19]) (sy := []) rfl 300 9 _ _ _ _ h
theorem y_60_24 {m : z_M} {g : z_g} {Q : q_V → q_S → Prop} {a1 a3 a4 s0 s2 s3 : Int} {oa2 os1 : Nat} (h :
    z_sp (q_sh0 ++ g.2.2.1) os1 0 13 ∧ z_in s0 13 ∧
    z_T 60 9 [.inr (.inr 65), .inl a1, .inr (.inr oa2), .inl (s3 + (s2 * (m os1 ((s0).toNat)))), .inl (a4 + (1 : Int))] [] (z_st m g) Q) :
    z_T 60 24 [.inr (.inr 65), .inl a1, .inr (.inr oa2), .inl a3, .inl a4] [.inl s0, .inr (.inr os1), .inl s2, .inl s3] (z_st m g) Q := y_wp_T (cd := q_c60) (cs := [4, 9, 24, 34]) (ng := []) (sy := [(24, 13)]) rfl 300 24 _ _ _ _ h
theorem y_60_34 {m : z_M} {g : z_g} {Q : q_V → q_S → Prop} {a1 a3 a4 s0 : Int} {oa2 : Nat} (h :
    Q (.inl s0) (z_st m g)) :
    z_T 60 34 [.inr (.inr 65), .inl a1, .inr (.inr oa2), .inl a3, .inl a4] [.inl s0] (z_st m g) Q := y_wp_T (cd := q_c60) (cs := [4, 9, 24, 34]) (ng := []) (sy := []) rfl 300 34 _ _ _ _ h
theorem y_61P : q_P 61 = (q_c61, 2) := rfl
theorem y_61 {m : z_M} {g : z_g} {Q : q_V → q_S → Prop} {a1 : Int} (h :
    z_ok a1 ∧
    (a1 < (0 : Int) →
      z_rw (q_rfz g.1 g.2.1) 30 (0 : Int) 31 ∧
      (31 + ((0 : Int)).toNat) < 1000 ∧ Q (.inr (.inr (31 + ((0 : Int)).toNat))) (z_st m g)) ∧
    ((0 : Int) ≤ a1 →
      z_ok2 a1 (31 : Int) ∧
      (a1 < (31 : Int) →
        z_rw (q_rfz g.1 g.2.1) 30 a1 31 ∧
        (31 + (a1).toNat) < 1000 ∧ Q (.inr (.inr (31 + (a1).toNat))) (z_st m g)) ∧
      ((31 : Int) ≤ a1 →
        z_rw (q_rfz g.1 g.2.1) 30 (0 : Int) 31 ∧
        (31 + ((0 : Int)).toNat) < 1000 ∧ Q (.inr (.inr (31 + ((0 : Int)).toNat))) (z_st m g)))) :
    z_C 61 [.inr (.inr 29), .inl a1] (z_st m g) Q := y_C_wp (cs := []) (ng := [13]) (sy := []) (n := 300) y_61P h
theorem y_62P : q_P 62 = (q_c62, 3) := rfl
theorem y_62 {m : z_M} {g : z_g} {Q : q_V → q_S → Prop} (h :
    z_T 62 4 [.inr (.inr 65), .inl (0 : Int), .inl (1 : Int)] [] (z_st m g) Q) :
    z_C 62 [.inr (.inr 65)] (z_st m g) Q := y_C_wp (cs := [4, 12]) (ng := []) (sy := []) (n := 300) y_62P h
theorem y_62_4 {m : z_M} {g : z_g} {Q : q_V → q_S → Prop} {a1 a2 : Int} (h :
    z_ok2 a2 (m 29 0) ∧
    ((m 29 0) ≤ a2 →
      Q (.inl a1) (z_st m g)) ∧
    (a2 < (m 29 0) →
      z_C 63 [.inr (.inr 65), .inl a2] (z_st m g) (fun v S => z_T 62 12 [.inr (.inr 65), .inl a1, .inl a2] (q_push v []) S Q))) :
    z_T 62 4 [.inr (.inr 65), .inl a1, .inl a2] [] (z_st m g) Q := y_wp_T (cd := q_c62) (cs := [4, 12]) (ng := []) (sy := []) rfl 300 4 _ _ _ _ h
theorem y_62_12 {m : z_M} {g : z_g} {Q : q_V → q_S → Prop} {a1 a2 s0 : Int} (h :
    z_ok s0 ∧
    (s0 = (0 : Int) →
      z_T 62 4 [.inr (.inr 65), .inl a1, .inl (a2 + (1 : Int))] [] (z_st m g) Q) ∧
    (¬ s0 = (0 : Int) →
      z_T 62 4 [.inr (.inr 65), .inl (q_bin 4 a1 (q_bin 6 (1 : Int) a2)), .inl (a2 + (1 : Int))] [] (z_st m g) Q)) :
    z_T 62 12 [.inr (.inr 65), .inl a1, .inl a2] [.inl s0] (z_st m g) Q := y_wp_T (cd := q_c62) (cs := [4, 12]) (ng := []) (sy := []) rfl 300 12 _ _ _ _ h
theorem y_63P : q_P 63 = (q_c63, 2) := rfl
theorem y_63 {m : z_M} {g : z_g} {Q : q_V → q_S → Prop} {a1 : Int} (h :
    z_C 60 [.inr (.inr 65), .inl a1] (z_st m g) (fun v S => z_T 63 3 [.inr (.inr 65), .inl a1] (q_push v []) S Q)) :
    z_C 63 [.inr (.inr 65), .inl a1] (z_st m g) Q := y_C_wp (cs := [3, 7]) (ng := []) (sy := []) (n := 300) y_63P h
theorem y_63_3 {m : z_M} {g : z_g} {Q : q_V → q_S → Prop} {a1 s0 : Int} (h :
    z_ok s0 ∧
    (¬ s0 = (0 : Int) →
      Q (.inl (0 : Int)) (z_st m g)) ∧
    (s0 = (0 : Int) →
      z_C 64 [.inr (.inr 65), .inl a1] (z_st m g) (fun v S => z_T 63 7 [.inr (.inr 65), .inl a1] (q_push v []) S Q))) :
    z_T 63 3 [.inr (.inr 65), .inl a1] [.inl s0] (z_st m g) Q := y_wp_T (cd := q_c63) (cs := [3, 7]) (ng := []) (sy := []) rfl 300 3 _ _ _ _ h
theorem y_63_7 {m : z_M} {g : z_g} {Q : q_V → q_S → Prop} {a1 s0 : Int} (h :
    z_ok s0 ∧
    (¬ s0 = (0 : Int) →
      Q (.inl (0 : Int)) (z_st m g)) ∧
    (s0 = (0 : Int) →
      Q (.inl (1 : Int)) (z_st m g))) :
    z_T 63 7 [.inr (.inr 65), .inl a1] [.inl s0] (z_st m g) Q := y_wp_T (cd := q_c63) (cs := [3, 7]) (ng := []) (sy := []) rfl 300 7 _ _ _ _ h
theorem y_64P : q_P 64 = (q_c64, 6) := rfl
theorem y_64 {m : z_M} {g : z_g} {Q : q_V → q_S → Prop} {a1 : Int} (h :
    z_C 61 [.inr (.inr 29), .inl a1] (z_st m g) (fun v S => z_T 64 4 [.inr (.inr 65), .inl a1, q_dead, q_dead, q_dead, q_dead] (q_push v []) S Q)) :
    z_C 64 [.inr (.inr 65), .inl a1] (z_st m g) Q := y_C_wp (cs := [4, 9, 18, 42]) (ng := []) (sy := []) (n := 300) y_64P h
theorem y_64_4 {m : z_M} {g : z_g} {Q : q_V → q_S → Prop} {a1 : Int} {os0 : Nat} (h :
    os0 < 1000 ∧
    z_T 64 9 [.inr (.inr 65), .inl a1, .inr (.inr os0), .inl (0 : Int), .inl (0 : Int), q_dead] [] (z_st m g) Q) :
    z_T 64 4 [.inr (.inr 65), .inl a1, q_dead, q_dead, q_dead, q_dead] [.inr (.inr os0)] (z_st m g) Q := y_wp_T (cd := q_c64) (cs := [4, 9, 18, 42]) (ng := [4]) (sy := []) rfl 300 4 _ _ _ _ h
theorem y_64_9 {m : z_M} {g : z_g} {Q : q_V → q_S → Prop} {a1 a3 a4 : Int} {oa2 : Nat} {da5 : q_V} (h :
    z_ok2 a4 (m 66 1) ∧
    ((m 66 1) ≤ a4 →
      z_C 52 [.inr (.inr 29), .inl a3] (z_st m g) (fun v S => z_T 64 42 [.inr (.inr 65), .inl a1, .inr (.inr oa2), .inl a3, .inl a4, da5] (q_push v []) S Q)) ∧
    (a4 < (m 66 1) →
      z_C 28 [.inr (.inr 66), .inl a4] (z_st m g) (fun v S => z_T 64 18 [.inr (.inr 65), .inl a1, .inr (.inr oa2), .inl a3, .inl a4, da5] (q_push v []) S Q))) :
    z_T 64 9 [.inr (.inr 65), .inl a1, .inr (.inr oa2), .inl a3, .inl a4, da5] [] (z_st m g) Q := y_wp_T (cd := q_c64) (cs := [4, 9, 18, 42]) (ng := []) (sy := []) rfl 300 9 _ _ _ _ h
theorem y_64_18 {m : z_M} {g : z_g} {Q : q_V → q_S → Prop} {a1 a3 a4 s0 : Int} {oa2 : Nat} {da5 : q_V} (h :
    z_ok s0 ∧
    (s0 ≤ (0 : Int) →
      z_T 64 9 [.inr (.inr 65), .inl a1, .inr (.inr oa2), .inl a3, .inl (a4 + (1 : Int)), .inl s0] [] (z_st m g) Q) ∧
    ((0 : Int) < s0 →
      z_in a4 6 ∧
      oa2 < 1000 ∧
      z_sp (q_sh0 ++ g.2.2.1) oa2 0 13 ∧ z_in (s0 - (1 : Int)) 13 ∧
      z_T 64 9 [.inr (.inr 65), .inl a1, .inr (.inr oa2), .inl (a3 + (((m 68 ((a4).toNat)) * s0) * (m oa2 ((s0 - (1 : Int)).toNat)))), .inl (a4 + (1 : Int)), .inl s0] [] (z_st m g) Q)) :
    z_T 64 18 [.inr (.inr 65), .inl a1, .inr (.inr oa2), .inl a3, .inl a4, da5] [.inl s0] (z_st m g) Q := y_wp_T (cd := q_c64) (cs := [4, 9, 18, 42]) (ng := [28]) (sy := [(32, 13)]) rfl 300 18 _ _ _ _ h
theorem y_64_42 {m : z_M} {g : z_g} {Q : q_V → q_S → Prop} {a1 a3 a4 s0 : Int} {oa2 : Nat} {da5 : q_V} (h :
    Q (.inl s0) (z_st m g)) :
    z_T 64 42 [.inr (.inr 65), .inl a1, .inr (.inr oa2), .inl a3, .inl a4, da5] [.inl s0] (z_st m g) Q := y_wp_T (cd := q_c64) (cs := [4, 9, 18, 42]) (ng := []) (sy := []) rfl 300 42 _ _ _ _ h
theorem y_65P : q_P 65 = (q_c65, 3) := rfl
theorem y_65 {m : z_M} {g : z_g} {Q : q_V → q_S → Prop} (h :
    z_T 65 4 [.inr (.inr 65), .inl (0 : Int), .inl (0 : Int)] [] (z_st m g) Q) :
    z_C 65 [.inr (.inr 65)] (z_st m g) Q := y_C_wp (cs := [4]) (ng := []) (sy := []) (n := 300) y_65P h
theorem y_65_4 {m : z_M} {g : z_g} {Q : q_V → q_S → Prop} {a1 a2 : Int} (h :
    z_ok2 a2 (m 66 1) ∧
    ((m 66 1) ≤ a2 →
      Q (.inl a1) (z_st m g)) ∧
    (a2 < (m 66 1) →
      z_in a2 6 ∧
      z_ok (m 68 ((a2).toNat)) ∧
      ((m 68 ((a2).toNat)) = (0 : Int) →
        z_T 65 4 [.inr (.inr 65), .inl a1, .inl (a2 + (1 : Int))] [] (z_st m g) Q) ∧
      (¬ (m 68 ((a2).toNat)) = (0 : Int) →
        z_T 65 4 [.inr (.inr 65), .inl (a1 + (1 : Int)), .inl (a2 + (1 : Int))] [] (z_st m g) Q))) :
    z_T 65 4 [.inr (.inr 65), .inl a1, .inl a2] [] (z_st m g) Q := y_wp_T (cd := q_c65) (cs := [4]) (ng := []) (sy := []) rfl 300 4 _ _ _ _ h
theorem y_66P : q_P 66 = (q_c66, 5) := rfl
theorem y_66 {m : z_M} {g : z_g} {Q : q_V → q_S → Prop} (h :
    z_C 26 [.inr (.inr 66)] (z_st m g) (fun v S => z_T 66 6 [.inr (.inr 70), .inr (.inr 65), .inr (.inr 66), q_dead, q_dead] (q_push v [.inr (.inr 70)]) S Q)) :
    z_C 66 [.inr (.inr 70), .inr (.inr 65)] (z_st m g) Q := y_C_wp (cs := [6, 11, 13, 20, 22, 37, 42, 64]) (ng := []) (sy := []) (n := 300) y_66P h
theorem y_66_6 {m : z_M} {g : z_g} {Q : q_V → q_S → Prop} {s0 : Int} (h :
    z_C 10 [.inr (.inr 71), .inl (0 : Int)] (z_st (q_upd m 70 1 s0) g) (fun v S => z_T 66 11 [.inr (.inr 70), .inr (.inr 65), .inr (.inr 66), q_dead, q_dead] (q_push v []) S Q)) :
    z_T 66 6 [.inr (.inr 70), .inr (.inr 65), .inr (.inr 66), q_dead, q_dead] [.inl s0, .inr (.inr 70)] (z_st m g) Q := y_wp_T (cd := q_c66) (cs := [6, 11, 13, 20, 22, 37, 42, 64]) (ng := []) (sy := []) rfl 300 6 _ _ _ _ h
theorem y_66_11 {m : z_M} {g : z_g} {Q : q_V → q_S → Prop} (h :
    z_T 66 13 [.inr (.inr 70), .inr (.inr 65), .inr (.inr 66), .inl (0 : Int), q_dead] [] (z_st m g) Q) :
    z_T 66 11 [.inr (.inr 70), .inr (.inr 65), .inr (.inr 66), q_dead, q_dead] [] (z_st m g) Q := y_wp_T (cd := q_c66) (cs := [6, 11, 13, 20, 22, 37, 42, 64]) (ng := []) (sy := []) rfl 300 11 _ _ _ _ h
theorem y_66_13 {m : z_M} {g : z_g} {Q : q_V → q_S → Prop} {a3 : Int} {da4 : q_V} (h :
    z_ok2 a3 (m 66 1) ∧
    ((m 66 1) ≤ a3 →
      z_T 66 42 [.inr (.inr 70), .inr (.inr 65), .inr (.inr 66), .inl (0 : Int), da4] [] (z_st m g) Q) ∧
    (a3 < (m 66 1) →
      z_C 28 [.inr (.inr 66), .inl a3] (z_st m g) (fun v S => z_T 66 20 [.inr (.inr 70), .inr (.inr 65), .inr (.inr 66), .inl a3, da4] (q_push v []) S Q))) :
    z_T 66 13 [.inr (.inr 70), .inr (.inr 65), .inr (.inr 66), .inl a3, da4] [] (z_st m g) Q := y_wp_T (cd := q_c66) (cs := [6, 11, 13, 20, 22, 37, 42, 64]) (ng := []) (sy := []) rfl 300 13 _ _ _ _ h
theorem y_66_20 {m : z_M} {g : z_g} {Q : q_V → q_S → Prop} {a3 s0 : Int} {da4 : q_V} (h :
    z_C 29 [.inr (.inr 66)] (z_st m g) (fun v S => z_T 66 22 [.inr (.inr 70), .inr (.inr 65), .inr (.inr 66), .inl a3, da4] (q_push v [.inl s0]) S Q)) :
    z_T 66 20 [.inr (.inr 70), .inr (.inr 65), .inr (.inr 66), .inl a3, da4] [.inl s0] (z_st m g) Q := y_wp_T (cd := q_c66) (cs := [6, 11, 13, 20, 22, 37, 42, 64]) (ng := []) (sy := []) rfl 300 20 _ _ _ _ h
theorem y_66_22 {m : z_M} {g : z_g} {Q : q_V → q_S → Prop} {a3 s0 s1 : Int} {da4 : q_V} (h :
    z_ok (s1 - s0) ∧
    ((s1 - s0) < (0 : Int) →
      z_T 66 13 [.inr (.inr 70), .inr (.inr 65), .inr (.inr 66), .inl (a3 + (1 : Int)), .inl (s1 - s0)] [] (z_st m g) Q) ∧
    ((0 : Int) ≤ (s1 - s0) →
      z_ok2 (s1 - s0) (13 : Int) ∧
      ((13 : Int) ≤ (s1 - s0) →
        z_T 66 13 [.inr (.inr 70), .inr (.inr 65), .inr (.inr 66), .inl (a3 + (1 : Int)), .inl (s1 - s0)] [] (z_st m g) Q) ∧
      ((s1 - s0) < (13 : Int) →
        z_C 67 [.inr (.inr 65), .inl a3] (z_st m g) (fun v S => z_T 66 37 [.inr (.inr 70), .inr (.inr 65), .inr (.inr 66), .inl a3, .inl (s1 - s0)] (q_push v [.inl (s1 - s0), .inr (.inr 71)]) S Q)))) :
    z_T 66 22 [.inr (.inr 70), .inr (.inr 65), .inr (.inr 66), .inl a3, da4] [.inl s0, .inl s1] (z_st m g) Q := y_wp_T (cd := q_c66) (cs := [6, 11, 13, 20, 22, 37, 42, 64]) (ng := []) (sy := []) rfl 300 22 _ _ _ _ h
theorem y_66_37 {m : z_M} {g : z_g} {Q : q_V → q_S → Prop} {a3 a4 s0 s1 : Int} (h :
    z_in s1 13 ∧
    z_T 66 13 [.inr (.inr 70), .inr (.inr 65), .inr (.inr 66), .inl (a3 + (1 : Int)), .inl a4] [] (z_st (q_upd m 71 ((s1).toNat) s0) g) Q) :
    z_T 66 37 [.inr (.inr 70), .inr (.inr 65), .inr (.inr 66), .inl a3, .inl a4] [.inl s0, .inl s1, .inr (.inr 71)] (z_st m g) Q := y_wp_T (cd := q_c66) (cs := [6, 11, 13, 20, 22, 37, 42, 64]) (ng := []) (sy := []) rfl 300 37 _ _ _ _ h
theorem y_66_42 {m : z_M} {g : z_g} {Q : q_V → q_S → Prop} {a3 : Int} {da4 : q_V} (h :
    z_ok2 (a3 + (1 : Int)) (13 : Int) ∧
    ((13 : Int) ≤ (a3 + (1 : Int)) →
      Q q_dead (z_st m g)) ∧
    ((a3 + (1 : Int)) < (13 : Int) →
      z_in (a3 + (1 : Int)) 13 ∧
      z_C 68 [.inr (.inr 29), .inl (a3 + (1 : Int)), .inl (m 71 ((a3 + (1 : Int)).toNat))] (z_st m g) (fun v S => z_T 66 64 [.inr (.inr 70), .inr (.inr 65), .inr (.inr 66), .inl a3, da4] (q_push v [.inl a3, .inr (.inr 72)]) S Q))) :
    z_T 66 42 [.inr (.inr 70), .inr (.inr 65), .inr (.inr 66), .inl a3, da4] [] (z_st m g) Q := y_wp_T (cd := q_c66) (cs := [6, 11, 13, 20, 22, 37, 42, 64]) (ng := []) (sy := []) rfl 300 42 _ _ _ _ h
theorem y_66_64 {m : z_M} {g : z_g} {Q : q_V → q_S → Prop} {a3 s0 s1 : Int} {da4 : q_V} (h :
    z_in s1 13 ∧
    z_T 66 42 [.inr (.inr 70), .inr (.inr 65), .inr (.inr 66), .inl (a3 + (1 : Int)), da4] [] (z_st (q_upd m 72 ((s1).toNat) s0) g) Q) :
    z_T 66 64 [.inr (.inr 70), .inr (.inr 65), .inr (.inr 66), .inl a3, da4] [.inl s0, .inl s1, .inr (.inr 72)] (z_st m g) Q := y_wp_T (cd := q_c66) (cs := [6, 11, 13, 20, 22, 37, 42, 64]) (ng := []) (sy := []) rfl 300 64 _ _ _ _ h
