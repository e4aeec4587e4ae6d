/-! segments of the methods (written by wip/whole/segall.py) -/
theorem y_140P : q_P 140 = (q_c140, 2) := rfl
theorem y_140 {m : z_M} {g : z_g} {Q : q_V → q_S → Prop} {a1 : Int} (h :
    z_ok a1 ∧
    (a1 < (0 : Int) →
      Q (.inl (-2 : Int)) (z_st m g)) ∧
    ((0 : Int) ≤ a1 →
      z_ok2 a1 (127 : Int) ∧
      (a1 ≤ (127 : Int) →
        z_ok2 (m 121 1) (80 : Int) ∧
        ((m 121 1) < (80 : Int) →
          z_C 141 [.inr (.inr 121), .inl a1] (z_st m g) (fun v S => z_T 140 18 [.inr (.inr 0), .inl a1] (q_push v []) S Q)) ∧
        ((80 : Int) ≤ (m 121 1) →
          Q (.inl (-4 : Int)) (z_st m g))) ∧
      ((127 : Int) < a1 →
        Q (.inl (-2 : Int)) (z_st m g)))) :
    z_C 140 [.inr (.inr 0), .inl a1] (z_st m g) Q := y_C_wp (cs := [18]) (ng := []) (sy := []) (n := 300) y_140P h
theorem y_140_18 {m : z_M} {g : z_g} {Q : q_V → q_S → Prop} {a1 s0 : Int} (h :
    Q (.inl s0) (z_st m g)) :
    z_T 140 18 [.inr (.inr 0), .inl a1] [.inl s0] (z_st m g) Q := y_wp_T (cd := q_c140) (cs := [18]) (ng := []) (sy := []) rfl 300 18 _ _ _ _ h
theorem y_141P : q_P 141 = (q_c141, 2) := rfl
theorem y_141 {m : z_M} {g : z_g} {Q : q_V → q_S → Prop} {a1 : Int} (h :
    z_ok2 (m 121 1) (80 : Int) ∧
    ((80 : Int) ≤ (m 121 1) →
      Q (.inl (m 121 1)) (z_st m g)) ∧
    ((m 121 1) < (80 : Int) →
      z_in (m 121 1) 80 ∧
      Q (.inl ((m 121 1) + (1 : Int))) (z_st (q_upd (q_upd m 122 ((m 121 1).toNat) a1) 121 1 ((m 121 1) + (1 : Int))) g))) :
    z_C 141 [.inr (.inr 121), .inl a1] (z_st m g) Q := y_C_wp (cs := []) (ng := []) (sy := []) (n := 300) y_141P h
theorem y_142P : q_P 142 = (q_c142, 4) := rfl
theorem y_142 {m : z_M} {g : z_g} {Q : q_V → q_S → Prop} (h :
    z_C 143 [.inr (.inr 121)] (z_st m g) (fun v S => z_T 142 3 [.inr (.inr 0), q_dead, q_dead, q_dead] (q_push v []) S Q)) :
    z_C 142 [.inr (.inr 0)] (z_st m g) Q := y_C_wp (cs := [3, 18, 28, 32, 33, 44]) (ng := []) (sy := []) (n := 300) y_142P h
theorem y_142_3 {m : z_M} {g : z_g} {Q : q_V → q_S → Prop} {s0 : Int} (h :
    z_ok s0 ∧
    (s0 < (0 : Int) →
      z_T 142 18 [.inr (.inr 0), .inl s0, .inl (0 : Int), .inl (0 : Int)] [] (z_st m g) Q) ∧
    ((0 : Int) ≤ s0 →
      Q (.inl ((-100 : Int) - s0)) (z_st (q_upd m 121 1 (0 : Int)) g))) :
    z_T 142 3 [.inr (.inr 0), q_dead, q_dead, q_dead] [.inl s0] (z_st m g) Q := y_wp_T (cd := q_c142) (cs := [3, 18, 28, 32, 33, 44]) (ng := []) (sy := []) rfl 300 3 _ _ _ _ h
theorem y_142_18 {m : z_M} {g : z_g} {Q : q_V → q_S → Prop} {a1 a2 a3 : Int} (h :
    z_ok2 a3 (m 121 2) ∧
    ((m 121 2) ≤ a3 →
      z_C 21 [.inr (.inr 109)] (z_st (q_upd m 121 1 (0 : Int)) g) (fun v S => z_T 142 44 [.inr (.inr 0), .inl a1, .inl a2, .inl a3] (q_push v []) S Q)) ∧
    (a3 < (m 121 2) →
      z_C 150 [.inr (.inr 121), .inl a3] (z_st m g) (fun v S => z_T 142 28 [.inr (.inr 0), .inl a1, .inl a2, .inl a3] (q_push v [.inr (.inr 0)]) S Q))) :
    z_T 142 18 [.inr (.inr 0), .inl a1, .inl a2, .inl a3] [] (z_st m g) Q := y_wp_T (cd := q_c142) (cs := [3, 18, 28, 32, 33, 44]) (ng := []) (sy := []) rfl 300 18 _ _ _ _ h
theorem y_142_28 {m : z_M} {g : z_g} {Q : q_V → q_S → Prop} {a1 a2 a3 s0 : Int} (h :
    z_C 151 [.inr (.inr 121), .inl a3] (z_st m g) (fun v S => z_T 142 32 [.inr (.inr 0), .inl a1, .inl a2, .inl a3] (q_push v [.inl s0, .inr (.inr 0)]) S Q)) :
    z_T 142 28 [.inr (.inr 0), .inl a1, .inl a2, .inl a3] [.inl s0, .inr (.inr 0)] (z_st m g) Q := y_wp_T (cd := q_c142) (cs := [3, 18, 28, 32, 33, 44]) (ng := []) (sy := []) rfl 300 28 _ _ _ _ h
theorem y_142_32 {m : z_M} {g : z_g} {Q : q_V → q_S → Prop} {a1 a2 a3 s0 s1 : Int} (h :
    z_C 152 [.inr (.inr 0), .inl s1, .inl s0] (z_st m g) (fun v S => z_T 142 33 [.inr (.inr 0), .inl a1, .inl a2, .inl a3] (q_push v []) S Q)) :
    z_T 142 32 [.inr (.inr 0), .inl a1, .inl a2, .inl a3] [.inl s0, .inl s1, .inr (.inr 0)] (z_st m g) Q := y_wp_T (cd := q_c142) (cs := [3, 18, 28, 32, 33, 44]) (ng := []) (sy := []) rfl 300 32 _ _ _ _ h
theorem y_142_33 {m : z_M} {g : z_g} {Q : q_V → q_S → Prop} {a1 a2 a3 s0 : Int} (h :
    z_ok s0 ∧
    (s0 < (0 : Int) →
      z_T 142 18 [.inr (.inr 0), .inl a1, .inl a2, .inl (a3 + (1 : Int))] [] (z_st m g) Q) ∧
    ((0 : Int) ≤ s0 →
      z_T 142 18 [.inr (.inr 0), .inl a1, .inl (a2 + (1 : Int)), .inl (a3 + (1 : Int))] [] (z_st m g) Q)) :
    z_T 142 33 [.inr (.inr 0), .inl a1, .inl a2, .inl a3] [.inl s0] (z_st m g) Q := y_wp_T (cd := q_c142) (cs := [3, 18, 28, 32, 33, 44]) (ng := []) (sy := []) rfl 300 33 _ _ _ _ h
theorem y_142_44 {m : z_M} {g : z_g} {Q : q_V → q_S → Prop} {a1 a2 a3 : Int} (h :
    Q (.inl a2) (z_st m g)) :
    z_T 142 44 [.inr (.inr 0), .inl a1, .inl a2, .inl a3] [] (z_st m g) Q := y_wp_T (cd := q_c142) (cs := [3, 18, 28, 32, 33, 44]) (ng := []) (sy := []) rfl 300 44 _ _ _ _ h
theorem y_143P : q_P 143 = (q_c143, 4) := rfl
theorem y_143 {m : z_M} {g : z_g} {Q : q_V → q_S → Prop} (h :
    z_T 143 5 [.inr (.inr 121), .inl (0 : Int), q_dead, q_dead] [] (z_st (q_upd m 121 2 (0 : Int)) g) Q) :
    z_C 143 [.inr (.inr 121)] (z_st m g) Q := y_C_wp (cs := [5, 12, 13, 16, 25, 40, 50, 78]) (ng := []) (sy := []) (n := 300) y_143P h
theorem y_143_5 {m : z_M} {g : z_g} {Q : q_V → q_S → Prop} {a1 : Int} {da2 da3 : q_V} (h :
    z_ok2 (m 121 2) (10 : Int) ∧
    ((10 : Int) ≤ (m 121 2) →
      Q (.inl a1) (z_st m g)) ∧
    ((m 121 2) < (10 : Int) →
      z_C 144 [.inr (.inr 121), .inl a1] (z_st m g) (fun v S => z_T 143 12 [.inr (.inr 121), .inl a1, da2, da3] (q_push v []) S Q))) :
    z_T 143 5 [.inr (.inr 121), .inl a1, da2, da3] [] (z_st m g) Q := y_wp_T (cd := q_c143) (cs := [5, 12, 13, 16, 25, 40, 50, 78]) (ng := []) (sy := []) rfl 300 5 _ _ _ _ h
theorem y_143_12 {m : z_M} {g : z_g} {Q : q_V → q_S → Prop} {a1 s0 : Int} {da2 da3 : q_V} (h :
    z_C 145 [.inl s0] (z_st m g) (fun v S => z_T 143 13 [.inr (.inr 121), .inl a1, da2, da3] (q_push v []) S Q)) :
    z_T 143 12 [.inr (.inr 121), .inl a1, da2, da3] [.inl s0] (z_st m g) Q := y_wp_T (cd := q_c143) (cs := [5, 12, 13, 16, 25, 40, 50, 78]) (ng := []) (sy := []) rfl 300 12 _ _ _ _ h
theorem y_143_13 {m : z_M} {g : z_g} {Q : q_V → q_S → Prop} {a1 s0 : Int} {da2 da3 : q_V} (h :
    z_T 143 16 [.inr (.inr 121), .inl a1, .inl s0, .inl a1] [] (z_st m g) Q) :
    z_T 143 13 [.inr (.inr 121), .inl a1, da2, da3] [.inl s0] (z_st m g) Q := y_wp_T (cd := q_c143) (cs := [5, 12, 13, 16, 25, 40, 50, 78]) (ng := []) (sy := []) rfl 300 13 _ _ _ _ h
theorem y_143_16 {m : z_M} {g : z_g} {Q : q_V → q_S → Prop} {a1 a2 a3 : Int} (h :
    z_ok2 a3 (a1 + a2) ∧
    ((a1 + a2) ≤ a3 →
      z_ok a2 ∧
      (a2 = (0 : Int) →
        Q (.inl a3) (z_st m g)) ∧
      (¬ a2 = (0 : Int) →
        z_ok2 a3 (a1 + a2) ∧
        ((a1 + a2) ≤ a3 →
          z_C 144 [.inr (.inr 121), .inl a1] (z_st m g) (fun v S => z_T 143 40 [.inr (.inr 121), .inl a1, .inl a2, .inl a3] (q_push v []) S Q)) ∧
        (a3 < (a1 + a2) →
          Q (.inl a3) (z_st m g)))) ∧
    (a3 < (a1 + a2) →
      z_C 146 [.inr (.inr 121), .inl a1, .inl a3] (z_st m g) (fun v S => z_T 143 25 [.inr (.inr 121), .inl a1, .inl a2, .inl a3] (q_push v []) S Q))) :
    z_T 143 16 [.inr (.inr 121), .inl a1, .inl a2, .inl a3] [] (z_st m g) Q := y_wp_T (cd := q_c143) (cs := [5, 12, 13, 16, 25, 40, 50, 78]) (ng := []) (sy := []) rfl 300 16 _ _ _ _ h
theorem y_143_25 {m : z_M} {g : z_g} {Q : q_V → q_S → Prop} {a1 a2 a3 s0 : Int} (h :
    z_ok s0 ∧
    (s0 = (0 : Int) →
      z_ok a2 ∧
      (a2 = (0 : Int) →
        Q (.inl a3) (z_st m g)) ∧
      (¬ a2 = (0 : Int) →
        z_ok2 a3 (a1 + a2) ∧
        ((a1 + a2) ≤ a3 →
          z_C 144 [.inr (.inr 121), .inl a1] (z_st m g) (fun v S => z_T 143 40 [.inr (.inr 121), .inl a1, .inl a2, .inl a3] (q_push v []) S Q)) ∧
        (a3 < (a1 + a2) →
          Q (.inl a3) (z_st m g)))) ∧
    (¬ s0 = (0 : Int) →
      z_T 143 16 [.inr (.inr 121), .inl a1, .inl a2, .inl (a3 + (1 : Int))] [] (z_st m g) Q)) :
    z_T 143 25 [.inr (.inr 121), .inl a1, .inl a2, .inl a3] [.inl s0] (z_st m g) Q := y_wp_T (cd := q_c143) (cs := [5, 12, 13, 16, 25, 40, 50, 78]) (ng := []) (sy := []) rfl 300 25 _ _ _ _ h
theorem y_143_40 {m : z_M} {g : z_g} {Q : q_V → q_S → Prop} {a1 a2 a3 s0 : Int} (h :
    z_ok2 s0 (97 : Int) ∧
    (¬ s0 = (97 : Int) →
      z_in (m 121 2) 10 ∧
      z_in (m 121 2) 10 ∧
      z_ok2 a3 (m 121 1) ∧
      (¬ a3 = (m 121 1) →
        z_C 144 [.inr (.inr 121), .inl a3] (z_st (q_upd (q_upd m 123 ((m 121 2).toNat) a1) 124 ((m 121 2).toNat) a3) g) (fun v S => z_T 143 78 [.inr (.inr 121), .inl a1, .inl a2, .inl a3] (q_push v []) S Q)) ∧
      (a3 = (m 121 1) →
        Q (.inl (-1 : Int)) (z_st (q_upd (q_upd (q_upd m 123 ((m 121 2).toNat) a1) 124 ((m 121 2).toNat) a3) 121 2 ((m 121 2) + (1 : Int))) g))) ∧
    (s0 = (97 : Int) →
      z_C 149 [.inr (.inr 121), .inl a3, .inl ((a1 + (1 : Int)) + (6 : Int))] (z_st m g) (fun v S => z_T 143 50 [.inr (.inr 121), .inl a1, .inl a2, .inl a3] (q_push v []) S Q))) :
    z_T 143 40 [.inr (.inr 121), .inl a1, .inl a2, .inl a3] [.inl s0] (z_st m g) Q := y_wp_T (cd := q_c143) (cs := [5, 12, 13, 16, 25, 40, 50, 78]) (ng := []) (sy := []) rfl 300 40 _ _ _ _ h
theorem y_143_50 {m : z_M} {g : z_g} {Q : q_V → q_S → Prop} {a1 a2 a3 s0 : Int} (h :
    z_in (m 121 2) 10 ∧
    z_in (m 121 2) 10 ∧
    z_ok2 s0 (m 121 1) ∧
    (¬ s0 = (m 121 1) →
      z_C 144 [.inr (.inr 121), .inl s0] (z_st (q_upd (q_upd m 123 ((m 121 2).toNat) a1) 124 ((m 121 2).toNat) s0) g) (fun v S => z_T 143 78 [.inr (.inr 121), .inl a1, .inl a2, .inl s0] (q_push v []) S Q)) ∧
    (s0 = (m 121 1) →
      Q (.inl (-1 : Int)) (z_st (q_upd (q_upd (q_upd m 123 ((m 121 2).toNat) a1) 124 ((m 121 2).toNat) s0) 121 2 ((m 121 2) + (1 : Int))) g))) :
    z_T 143 50 [.inr (.inr 121), .inl a1, .inl a2, .inl a3] [.inl s0] (z_st m g) Q := y_wp_T (cd := q_c143) (cs := [5, 12, 13, 16, 25, 40, 50, 78]) (ng := []) (sy := []) rfl 300 50 _ _ _ _ h
theorem y_143_78 {m : z_M} {g : z_g} {Q : q_V → q_S → Prop} {a1 a2 a3 s0 : Int} (h :
    z_ok2 s0 (59 : Int) ∧
    (¬ s0 = (59 : Int) →
      Q (.inl a3) (z_st m g)) ∧
    (s0 = (59 : Int) →
      z_ok2 (m 121 2) (9 : Int) ∧
      (¬ (m 121 2) = (9 : Int) →
        z_T 143 5 [.inr (.inr 121), .inl (a3 + (1 : Int)), .inl a2, .inl a3] [] (z_st (q_upd m 121 2 ((m 121 2) + (1 : Int))) g) Q) ∧
      ((m 121 2) = (9 : Int) →
        Q (.inl a3) (z_st m g)))) :
    z_T 143 78 [.inr (.inr 121), .inl a1, .inl a2, .inl a3] [.inl s0] (z_st m g) Q := y_wp_T (cd := q_c143) (cs := [5, 12, 13, 16, 25, 40, 50, 78]) (ng := []) (sy := []) rfl 300 78 _ _ _ _ h
theorem y_144P : q_P 144 = (q_c144, 2) := rfl
theorem y_144 {m : z_M} {g : z_g} {Q : q_V → q_S → Prop} {a1 : Int} (h :
    z_ok a1 ∧
    (a1 < (0 : Int) →
      Q (.inl (-1 : Int)) (z_st m g)) ∧
    ((0 : Int) ≤ a1 →
      z_ok2 a1 (m 121 1) ∧
      (a1 < (m 121 1) →
        z_in a1 80 ∧
        Q (.inl (m 122 ((a1).toNat))) (z_st m g)) ∧
      ((m 121 1) ≤ a1 →
        Q (.inl (-1 : Int)) (z_st m g)))) :
    z_C 144 [.inr (.inr 121), .inl a1] (z_st m g) Q := y_C_wp (cs := []) (ng := []) (sy := []) (n := 300) y_144P h
theorem y_145P : q_P 145 = (q_c145, 1) := rfl
theorem y_145 {m : z_M} {g : z_g} {Q : q_V → q_S → Prop} {a0 : Int} (h :
    z_ok a0 ∧
    (a0 = (97 : Int) → Q (.inl (3 : Int)) (z_st m g)) ∧
    (¬ a0 = (97 : Int) → (a0 = (110 : Int) → Q (.inl (5 : Int)) (z_st m g)) ∧
    (¬ a0 = (110 : Int) → (a0 = (112 : Int) → Q (.inl (2 : Int)) (z_st m g)) ∧
    (¬ a0 = (112 : Int) → (a0 = (115 : Int) → Q (.inl (4 : Int)) (z_st m g)) ∧
    (¬ a0 = (115 : Int) → Q (.inl (0 : Int)) (z_st m g)))))) :
    z_C 145 [.inl a0] (z_st m g) Q := y_C_wp (cs := []) (ng := []) (sy := []) (n := 300) y_145P h
theorem y_146P : q_P 146 = (q_c146, 4) := rfl
theorem y_146 {m : z_M} {g : z_g} {Q : q_V → q_S → Prop} {a1 a2 : Int} (h :
    z_ok2 a2 a1 ∧
    (¬ a2 = a1 →
      z_C 144 [.inr (.inr 121), .inl a1] (z_st m g) (fun v S => z_T 146 8 [.inr (.inr 121), .inl a1, .inl a2, q_dead] (q_push v []) S Q)) ∧
    (a2 = a1 →
      Q (.inl (1 : Int)) (z_st m g))) :
    z_C 146 [.inr (.inr 121), .inl a1, .inl a2] (z_st m g) Q := y_C_wp (cs := [8, 13, 29, 37]) (ng := []) (sy := []) (n := 300) y_146P h
theorem y_146_8 {m : z_M} {g : z_g} {Q : q_V → q_S → Prop} {a1 a2 s0 : Int} (h :
    z_ok2 s0 (97 : Int) ∧
    (s0 = (97 : Int) →
      z_ok (1 : Int) ∧
      ((1 : Int) = (0 : Int) →
        z_C 148 [.inr (.inr 121), .inl a2] (z_st m g) (fun v S => z_T 146 37 [.inr (.inr 121), .inl a1, .inl a2, .inl (1 : Int)] (q_push v []) S Q)) ∧
      (¬ (1 : Int) = (0 : Int) →
        z_C 147 [.inr (.inr 121), .inl a2] (z_st m g) (fun v S => z_T 146 29 [.inr (.inr 121), .inl a1, .inl a2, .inl (1 : Int)] (q_push v []) S Q))) ∧
    (¬ s0 = (97 : Int) →
      z_C 144 [.inr (.inr 121), .inl a1] (z_st m g) (fun v S => z_T 146 13 [.inr (.inr 121), .inl a1, .inl a2, q_dead] (q_push v []) S Q))) :
    z_T 146 8 [.inr (.inr 121), .inl a1, .inl a2, q_dead] [.inl s0] (z_st m g) Q := y_wp_T (cd := q_c146) (cs := [8, 13, 29, 37]) (ng := []) (sy := []) rfl 300 8 _ _ _ _ h
theorem y_146_13 {m : z_M} {g : z_g} {Q : q_V → q_S → Prop} {a1 a2 s0 : Int} (h :
    z_ok2 s0 (110 : Int) ∧
    (¬ s0 = (110 : Int) →
      z_ok (0 : Int) ∧
      ((0 : Int) = (0 : Int) →
        z_C 148 [.inr (.inr 121), .inl a2] (z_st m g) (fun v S => z_T 146 37 [.inr (.inr 121), .inl a1, .inl a2, .inl (0 : Int)] (q_push v []) S Q)) ∧
      (¬ (0 : Int) = (0 : Int) →
        z_C 147 [.inr (.inr 121), .inl a2] (z_st m g) (fun v S => z_T 146 29 [.inr (.inr 121), .inl a1, .inl a2, .inl (0 : Int)] (q_push v []) S Q))) ∧
    (s0 = (110 : Int) →
      z_ok2 a2 (a1 + (2 : Int)) ∧
      (¬ a2 = (a1 + (2 : Int)) →
        z_ok (0 : Int) ∧
        ((0 : Int) = (0 : Int) →
          z_C 148 [.inr (.inr 121), .inl a2] (z_st m g) (fun v S => z_T 146 37 [.inr (.inr 121), .inl a1, .inl a2, .inl (0 : Int)] (q_push v []) S Q)) ∧
        (¬ (0 : Int) = (0 : Int) →
          z_C 147 [.inr (.inr 121), .inl a2] (z_st m g) (fun v S => z_T 146 29 [.inr (.inr 121), .inl a1, .inl a2, .inl (0 : Int)] (q_push v []) S Q))) ∧
      (a2 = (a1 + (2 : Int)) →
        z_ok (1 : Int) ∧
        ((1 : Int) = (0 : Int) →
          z_C 148 [.inr (.inr 121), .inl a2] (z_st m g) (fun v S => z_T 146 37 [.inr (.inr 121), .inl a1, .inl a2, .inl (1 : Int)] (q_push v []) S Q)) ∧
        (¬ (1 : Int) = (0 : Int) →
          z_C 147 [.inr (.inr 121), .inl a2] (z_st m g) (fun v S => z_T 146 29 [.inr (.inr 121), .inl a1, .inl a2, .inl (1 : Int)] (q_push v []) S Q))))) :
    z_T 146 13 [.inr (.inr 121), .inl a1, .inl a2, q_dead] [.inl s0] (z_st m g) Q := y_wp_T (cd := q_c146) (cs := [8, 13, 29, 37]) (ng := []) (sy := []) rfl 300 13 _ _ _ _ h
theorem y_146_29 {m : z_M} {g : z_g} {Q : q_V → q_S → Prop} {a1 a2 a3 s0 : Int} (h :
    z_ok s0 ∧
    (s0 < (0 : Int) →
      z_T 146 37 [.inr (.inr 121), .inl a1, .inl a2, .inl a3] [.inl (0 : Int)] (z_st m g) Q) ∧
    ((0 : Int) ≤ s0 →
      z_T 146 37 [.inr (.inr 121), .inl a1, .inl a2, .inl a3] [.inl (1 : Int)] (z_st m g) Q)) :
    z_T 146 29 [.inr (.inr 121), .inl a1, .inl a2, .inl a3] [.inl s0] (z_st m g) Q := y_wp_T (cd := q_c146) (cs := [8, 13, 29, 37]) (ng := []) (sy := []) rfl 300 29 _ _ _ _ h
theorem y_146_37 {m : z_M} {g : z_g} {Q : q_V → q_S → Prop} {a1 a2 a3 s0 : Int} (h :
    (s0 = 0 ∨ s0 = 1) ∧ Q (.inl s0) (z_st m g)) :
    z_T 146 37 [.inr (.inr 121), .inl a1, .inl a2, .inl a3] [.inl s0] (z_st m g) Q := y_wp_T (cd := q_c146) (cs := [8, 13, 29, 37]) (ng := [37]) (sy := []) rfl 300 37 _ _ _ _ h
theorem y_147P : q_P 147 = (q_c147, 3) := rfl
theorem y_147 {m : z_M} {g : z_g} {Q : q_V → q_S → Prop} {a1 : Int} (h :
    z_C 144 [.inr (.inr 121), .inl a1] (z_st m g) (fun v S => z_T 147 3 [.inr (.inr 121), .inl a1, q_dead] (q_push v []) S Q)) :
    z_C 147 [.inr (.inr 121), .inl a1] (z_st m g) Q := y_C_wp (cs := [3]) (ng := []) (sy := []) (n := 300) y_147P h
theorem y_147_3 {m : z_M} {g : z_g} {Q : q_V → q_S → Prop} {a1 s0 : Int} (h :
    z_ok2 s0 (48 : Int) ∧
    (s0 < (48 : Int) →
      z_ok2 s0 (97 : Int) ∧
      (s0 < (97 : Int) →
        Q (.inl (-1 : Int)) (z_st m g)) ∧
      ((97 : Int) ≤ s0 →
        z_ok2 s0 (99 : Int) ∧
        ((99 : Int) < s0 →
          Q (.inl (-1 : Int)) (z_st m g)) ∧
        (s0 ≤ (99 : Int) →
          Q (.inl ((s0 - (97 : Int)) + (10 : Int))) (z_st m g)))) ∧
    ((48 : Int) ≤ s0 →
      z_ok2 s0 (57 : Int) ∧
      ((57 : Int) < s0 →
        z_ok2 s0 (97 : Int) ∧
        (s0 < (97 : Int) →
          Q (.inl (-1 : Int)) (z_st m g)) ∧
        ((97 : Int) ≤ s0 →
          z_ok2 s0 (99 : Int) ∧
          ((99 : Int) < s0 →
            Q (.inl (-1 : Int)) (z_st m g)) ∧
          (s0 ≤ (99 : Int) →
            Q (.inl ((s0 - (97 : Int)) + (10 : Int))) (z_st m g)))) ∧
      (s0 ≤ (57 : Int) →
        Q (.inl (s0 - (48 : Int))) (z_st m g)))) :
    z_T 147 3 [.inr (.inr 121), .inl a1, q_dead] [.inl s0] (z_st m g) Q := y_wp_T (cd := q_c147) (cs := [3]) (ng := []) (sy := []) rfl 300 3 _ _ _ _ h
theorem y_148P : q_P 148 = (q_c148, 3) := rfl
theorem y_148 {m : z_M} {g : z_g} {Q : q_V → q_S → Prop} {a1 : Int} (h :
    z_C 147 [.inr (.inr 121), .inl a1] (z_st m g) (fun v S => z_T 148 3 [.inr (.inr 121), .inl a1, q_dead] (q_push v []) S Q)) :
    z_C 148 [.inr (.inr 121), .inl a1] (z_st m g) Q := y_C_wp (cs := [3]) (ng := []) (sy := []) (n := 300) y_148P h
theorem y_148_3 {m : z_M} {g : z_g} {Q : q_V → q_S → Prop} {a1 s0 : Int} (h :
    z_ok s0 ∧
    (s0 < (0 : Int) →
      Q (.inl (0 : Int)) (z_st m g)) ∧
    ((0 : Int) ≤ s0 →
      z_ok2 s0 (9 : Int) ∧
      ((9 : Int) < s0 →
        Q (.inl (0 : Int)) (z_st m g)) ∧
      (s0 ≤ (9 : Int) →
        Q (.inl (1 : Int)) (z_st m g)))) :
    z_T 148 3 [.inr (.inr 121), .inl a1, q_dead] [.inl s0] (z_st m g) Q := y_wp_T (cd := q_c148) (cs := [3]) (ng := []) (sy := []) rfl 300 3 _ _ _ _ h
theorem y_149P : q_P 149 = (q_c149, 4) := rfl
theorem y_149 {m : z_M} {g : z_g} {Q : q_V → q_S → Prop} {a1 a2 : Int} (h :
    z_T 149 2 [.inr (.inr 121), .inl a1, .inl a2, .inl a1] [] (z_st m g) Q) :
    z_C 149 [.inr (.inr 121), .inl a1, .inl a2] (z_st m g) Q := y_C_wp (cs := [2, 8]) (ng := []) (sy := []) (n := 300) y_149P h
theorem y_149_2 {m : z_M} {g : z_g} {Q : q_V → q_S → Prop} {a1 a2 a3 : Int} (h :
    z_ok2 a3 a2 ∧
    (a2 ≤ a3 →
      Q (.inl a3) (z_st m g)) ∧
    (a3 < a2 →
      z_C 147 [.inr (.inr 121), .inl a3] (z_st m g) (fun v S => z_T 149 8 [.inr (.inr 121), .inl a1, .inl a2, .inl a3] (q_push v []) S Q))) :
    z_T 149 2 [.inr (.inr 121), .inl a1, .inl a2, .inl a3] [] (z_st m g) Q := y_wp_T (cd := q_c149) (cs := [2, 8]) (ng := []) (sy := []) rfl 300 2 _ _ _ _ h
theorem y_149_8 {m : z_M} {g : z_g} {Q : q_V → q_S → Prop} {a1 a2 a3 s0 : Int} (h :
    z_ok s0 ∧
    (s0 < (0 : Int) →
      Q (.inl a3) (z_st m g)) ∧
    ((0 : Int) ≤ s0 →
      z_T 149 2 [.inr (.inr 121), .inl a1, .inl a2, .inl (a3 + (1 : Int))] [] (z_st m g) Q)) :
    z_T 149 8 [.inr (.inr 121), .inl a1, .inl a2, .inl a3] [.inl s0] (z_st m g) Q := y_wp_T (cd := q_c149) (cs := [2, 8]) (ng := []) (sy := []) rfl 300 8 _ _ _ _ h
theorem y_150P : q_P 150 = (q_c150, 2) := rfl
theorem y_150 {m : z_M} {g : z_g} {Q : q_V → q_S → Prop} {a1 : Int} (h :
    z_ok a1 ∧
    (a1 < (0 : Int) →
      Q (.inl (-1 : Int)) (z_st m g)) ∧
    ((0 : Int) ≤ a1 →
      z_ok2 a1 (m 121 2) ∧
      (a1 < (m 121 2) →
        z_in a1 10 ∧
        Q (.inl (m 123 ((a1).toNat))) (z_st m g)) ∧
      ((m 121 2) ≤ a1 →
        Q (.inl (-1 : Int)) (z_st m g)))) :
    z_C 150 [.inr (.inr 121), .inl a1] (z_st m g) Q := y_C_wp (cs := []) (ng := []) (sy := []) (n := 300) y_150P h
theorem y_151P : q_P 151 = (q_c151, 2) := rfl
theorem y_151 {m : z_M} {g : z_g} {Q : q_V → q_S → Prop} {a1 : Int} (h :
    z_ok a1 ∧
    (a1 < (0 : Int) →
      Q (.inl (-1 : Int)) (z_st m g)) ∧
    ((0 : Int) ≤ a1 →
      z_ok2 a1 (m 121 2) ∧
      (a1 < (m 121 2) →
        z_in a1 10 ∧
        Q (.inl (m 124 ((a1).toNat))) (z_st m g)) ∧
      ((m 121 2) ≤ a1 →
        Q (.inl (-1 : Int)) (z_st m g)))) :
    z_C 151 [.inr (.inr 121), .inl a1] (z_st m g) Q := y_C_wp (cs := []) (ng := []) (sy := []) (n := 300) y_151P h
theorem y_152P : q_P 152 = (q_c152, 3) := rfl
theorem y_152 {m : z_M} {g : z_g} {Q : q_V → q_S → Prop} {a1 a2 : Int} (h :
    z_C 144 [.inr (.inr 121), .inl a1] (z_st m g) (fun v S => z_T 152 4 [.inr (.inr 0), .inl a1, .inl a2] (q_push v []) S Q)) :
    z_C 152 [.inr (.inr 0), .inl a1, .inl a2] (z_st m g) Q := y_C_wp (cs := [4, 12, 13, 22, 23, 31, 37, 43, 44, 52, 58, 65, 72, 74]) (ng := []) (sy := []) (n := 300) y_152P h
theorem y_152_4 {m : z_M} {g : z_g} {Q : q_V → q_S → Prop} {a1 a2 s0 : Int} (h :
    z_ok s0 ∧
    (s0 = (97 : Int) → z_C 153 [.inr (.inr 121), .inl (a1 + (1 : Int)), .inl a2] (z_st m g) (fun v S => z_T 152 22 [.inr (.inr 0), .inl a1, .inl a2] (q_push v [.inr (.inr 0)]) S Q)) ∧
    (¬ s0 = (97 : Int) → (s0 = (110 : Int) → z_C 147 [.inr (.inr 121), .inl (a1 + (1 : Int))] (z_st m g) (fun v S => z_T 152 52 [.inr (.inr 0), .inl a1, .inl a2] (q_push v [.inr (.inr 0)]) S Q)) ∧
    (¬ s0 = (110 : Int) → (s0 = (112 : Int) → z_C 147 [.inr (.inr 121), .inl (a1 + (1 : Int))] (z_st m g) (fun v S => z_T 152 12 [.inr (.inr 0), .inl a1, .inl a2] (q_push v [.inr (.inr 0)]) S Q)) ∧
    (¬ s0 = (112 : Int) → (s0 = (115 : Int) → z_C 147 [.inr (.inr 121), .inl (a1 + (1 : Int))] (z_st m g) (fun v S => z_T 152 31 [.inr (.inr 0), .inl a1, .inl a2] (q_push v [.inr (.inr 0)]) S Q)) ∧
    (¬ s0 = (115 : Int) → Q (.inl (-1 : Int)) (z_st m g)))))) :
    z_T 152 4 [.inr (.inr 0), .inl a1, .inl a2] [.inl s0] (z_st m g) Q := y_wp_T (cd := q_c152) (cs := [4, 12, 13, 22, 23, 31, 37, 43, 44, 52, 58, 65, 72, 74]) (ng := []) (sy := []) rfl 300 4 _ _ _ _ h
theorem y_152_12 {m : z_M} {g : z_g} {Q : q_V → q_S → Prop} {a1 a2 s0 : Int} (h :
    z_C 15 [.inr (.inr 0), .inl s0] (z_st m g) (fun v S => z_T 152 13 [.inr (.inr 0), .inl a1, .inl a2] (q_push v []) S Q)) :
    z_T 152 12 [.inr (.inr 0), .inl a1, .inl a2] [.inl s0, .inr (.inr 0)] (z_st m g) Q := y_wp_T (cd := q_c152) (cs := [4, 12, 13, 22, 23, 31, 37, 43, 44, 52, 58, 65, 72, 74]) (ng := []) (sy := []) rfl 300 12 _ _ _ _ h
theorem y_152_13 {m : z_M} {g : z_g} {Q : q_V → q_S → Prop} {a1 a2 s0 : Int} (h :
    Q (.inl s0) (z_st m g)) :
    z_T 152 13 [.inr (.inr 0), .inl a1, .inl a2] [.inl s0] (z_st m g) Q := y_wp_T (cd := q_c152) (cs := [4, 12, 13, 22, 23, 31, 37, 43, 44, 52, 58, 65, 72, 74]) (ng := []) (sy := []) rfl 300 13 _ _ _ _ h
theorem y_152_22 {m : z_M} {g : z_g} {Q : q_V → q_S → Prop} {a1 a2 s0 : Int} (h :
    z_C 18 [.inr (.inr 0), .inl s0] (z_st m g) (fun v S => z_T 152 23 [.inr (.inr 0), .inl a1, .inl a2] (q_push v []) S Q)) :
    z_T 152 22 [.inr (.inr 0), .inl a1, .inl a2] [.inl s0, .inr (.inr 0)] (z_st m g) Q := y_wp_T (cd := q_c152) (cs := [4, 12, 13, 22, 23, 31, 37, 43, 44, 52, 58, 65, 72, 74]) (ng := []) (sy := []) rfl 300 22 _ _ _ _ h
theorem y_152_23 {m : z_M} {g : z_g} {Q : q_V → q_S → Prop} {a1 a2 s0 : Int} (h :
    Q (.inl s0) (z_st m g)) :
    z_T 152 23 [.inr (.inr 0), .inl a1, .inl a2] [.inl s0] (z_st m g) Q := y_wp_T (cd := q_c152) (cs := [4, 12, 13, 22, 23, 31, 37, 43, 44, 52, 58, 65, 72, 74]) (ng := []) (sy := []) rfl 300 23 _ _ _ _ h
theorem y_152_31 {m : z_M} {g : z_g} {Q : q_V → q_S → Prop} {a1 a2 s0 : Int} (h :
    z_C 147 [.inr (.inr 121), .inl (a1 + (2 : Int))] (z_st m g) (fun v S => z_T 152 37 [.inr (.inr 0), .inl a1, .inl a2] (q_push v [.inl s0, .inr (.inr 0)]) S Q)) :
    z_T 152 31 [.inr (.inr 0), .inl a1, .inl a2] [.inl s0, .inr (.inr 0)] (z_st m g) Q := y_wp_T (cd := q_c152) (cs := [4, 12, 13, 22, 23, 31, 37, 43, 44, 52, 58, 65, 72, 74]) (ng := []) (sy := []) rfl 300 31 _ _ _ _ h
theorem y_152_37 {m : z_M} {g : z_g} {Q : q_V → q_S → Prop} {a1 a2 s0 s1 : Int} (h :
    z_C 147 [.inr (.inr 121), .inl (a1 + (3 : Int))] (z_st m g) (fun v S => z_T 152 43 [.inr (.inr 0), .inl a1, .inl a2] (q_push v [.inl s0, .inl s1, .inr (.inr 0)]) S Q)) :
    z_T 152 37 [.inr (.inr 0), .inl a1, .inl a2] [.inl s0, .inl s1, .inr (.inr 0)] (z_st m g) Q := y_wp_T (cd := q_c152) (cs := [4, 12, 13, 22, 23, 31, 37, 43, 44, 52, 58, 65, 72, 74]) (ng := []) (sy := []) rfl 300 37 _ _ _ _ h
theorem y_152_43 {m : z_M} {g : z_g} {Q : q_V → q_S → Prop} {a1 a2 s0 s1 s2 : Int} (h :
    z_C 39 [.inr (.inr 0), .inl s2, .inl s1, .inl s0] (z_st m g) (fun v S => z_T 152 44 [.inr (.inr 0), .inl a1, .inl a2] (q_push v []) S Q)) :
    z_T 152 43 [.inr (.inr 0), .inl a1, .inl a2] [.inl s0, .inl s1, .inl s2, .inr (.inr 0)] (z_st m g) Q := y_wp_T (cd := q_c152) (cs := [4, 12, 13, 22, 23, 31, 37, 43, 44, 52, 58, 65, 72, 74]) (ng := []) (sy := []) rfl 300 43 _ _ _ _ h
theorem y_152_44 {m : z_M} {g : z_g} {Q : q_V → q_S → Prop} {a1 a2 s0 : Int} (h :
    Q (.inl s0) (z_st m g)) :
    z_T 152 44 [.inr (.inr 0), .inl a1, .inl a2] [.inl s0] (z_st m g) Q := y_wp_T (cd := q_c152) (cs := [4, 12, 13, 22, 23, 31, 37, 43, 44, 52, 58, 65, 72, 74]) (ng := []) (sy := []) rfl 300 44 _ _ _ _ h
theorem y_152_52 {m : z_M} {g : z_g} {Q : q_V → q_S → Prop} {a1 a2 s0 : Int} (h :
    z_C 147 [.inr (.inr 121), .inl (a1 + (2 : Int))] (z_st m g) (fun v S => z_T 152 58 [.inr (.inr 0), .inl a1, .inl a2] (q_push v [.inl s0, .inr (.inr 0)]) S Q)) :
    z_T 152 52 [.inr (.inr 0), .inl a1, .inl a2] [.inl s0, .inr (.inr 0)] (z_st m g) Q := y_wp_T (cd := q_c152) (cs := [4, 12, 13, 22, 23, 31, 37, 43, 44, 52, 58, 65, 72, 74]) (ng := []) (sy := []) rfl 300 52 _ _ _ _ h
theorem y_152_58 {m : z_M} {g : z_g} {Q : q_V → q_S → Prop} {a1 a2 s0 s1 : Int} (h :
    z_C 147 [.inr (.inr 121), .inl (a1 + (3 : Int))] (z_st m g) (fun v S => z_T 152 65 [.inr (.inr 0), .inl a1, .inl a2] (q_push v [.inl (10 : Int), .inl s0, .inl s1, .inr (.inr 0)]) S Q)) :
    z_T 152 58 [.inr (.inr 0), .inl a1, .inl a2] [.inl s0, .inl s1, .inr (.inr 0)] (z_st m g) Q := y_wp_T (cd := q_c152) (cs := [4, 12, 13, 22, 23, 31, 37, 43, 44, 52, 58, 65, 72, 74]) (ng := []) (sy := []) rfl 300 58 _ _ _ _ h
theorem y_152_65 {m : z_M} {g : z_g} {Q : q_V → q_S → Prop} {a1 a2 s0 s1 s2 s3 : Int} (h :
    z_C 147 [.inr (.inr 121), .inl (a1 + (4 : Int))] (z_st m g) (fun v S => z_T 152 72 [.inr (.inr 0), .inl a1, .inl a2] (q_push v [.inl (s1 * s0), .inl s2, .inl s3, .inr (.inr 0)]) S Q)) :
    z_T 152 65 [.inr (.inr 0), .inl a1, .inl a2] [.inl s0, .inl s1, .inl s2, .inl s3, .inr (.inr 0)] (z_st m g) Q := y_wp_T (cd := q_c152) (cs := [4, 12, 13, 22, 23, 31, 37, 43, 44, 52, 58, 65, 72, 74]) (ng := []) (sy := []) rfl 300 65 _ _ _ _ h
theorem y_152_72 {m : z_M} {g : z_g} {Q : q_V → q_S → Prop} {a1 a2 s0 s1 s2 s3 : Int} (h :
    z_C 43 [.inr (.inr 0), .inl s3, .inl s2, .inl (s1 + s0)] (z_st m g) (fun v S => z_T 152 74 [.inr (.inr 0), .inl a1, .inl a2] (q_push v []) S Q)) :
    z_T 152 72 [.inr (.inr 0), .inl a1, .inl a2] [.inl s0, .inl s1, .inl s2, .inl s3, .inr (.inr 0)] (z_st m g) Q := y_wp_T (cd := q_c152) (cs := [4, 12, 13, 22, 23, 31, 37, 43, 44, 52, 58, 65, 72, 74]) (ng := []) (sy := []) rfl 300 72 _ _ _ _ h
theorem y_152_74 {m : z_M} {g : z_g} {Q : q_V → q_S → Prop} {a1 a2 s0 : Int} (h :
    Q (.inl s0) (z_st m g)) :
    z_T 152 74 [.inr (.inr 0), .inl a1, .inl a2] [.inl s0] (z_st m g) Q := y_wp_T (cd := q_c152) (cs := [4, 12, 13, 22, 23, 31, 37, 43, 44, 52, 58, 65, 72, 74]) (ng := []) (sy := []) rfl 300 74 _ _ _ _ h
theorem y_153P : q_P 153 = (q_c153, 6) := rfl
theorem y_153 {m : z_M} {g : z_g} {Q : q_V → q_S → Prop} {a1 a2 : Int} (h :
    z_T 153 4 [.inr (.inr 121), .inl a1, .inl a2, .inl (0 : Int), .inl a1, q_dead] [] (z_st m g) Q) :
    z_C 153 [.inr (.inr 121), .inl a1, .inl a2] (z_st m g) Q := y_C_wp (cs := [4, 10]) (ng := []) (sy := []) (n := 300) y_153P h
theorem y_153_4 {m : z_M} {g : z_g} {Q : q_V → q_S → Prop} {a1 a2 a3 a4 : Int} {da5 : q_V} (h :
    z_ok2 a4 a2 ∧
    (a2 ≤ a4 →
      Q (.inl a3) (z_st m g)) ∧
    (a4 < a2 →
      z_C 147 [.inr (.inr 121), .inl a4] (z_st m g) (fun v S => z_T 153 10 [.inr (.inr 121), .inl a1, .inl a2, .inl a3, .inl a4, da5] (q_push v []) S Q))) :
    z_T 153 4 [.inr (.inr 121), .inl a1, .inl a2, .inl a3, .inl a4, da5] [] (z_st m g) Q := y_wp_T (cd := q_c153) (cs := [4, 10]) (ng := []) (sy := []) rfl 300 4 _ _ _ _ h
theorem y_153_10 {m : z_M} {g : z_g} {Q : q_V → q_S → Prop} {a1 a2 a3 a4 s0 : Int} {da5 : q_V} (h :
    z_ok s0 ∧
    (s0 < (0 : Int) →
      z_T 153 4 [.inr (.inr 121), .inl a1, .inl a2, .inl a3, .inl (a4 + (1 : Int)), .inl s0] [] (z_st m g) Q) ∧
    ((0 : Int) ≤ s0 →
      z_T 153 4 [.inr (.inr 121), .inl a1, .inl a2, .inl (q_bin 4 a3 (q_bin 6 (1 : Int) s0)), .inl (a4 + (1 : Int)), .inl s0] [] (z_st m g) Q)) :
    z_T 153 10 [.inr (.inr 121), .inl a1, .inl a2, .inl a3, .inl a4, da5] [.inl s0] (z_st m g) Q := y_wp_T (cd := q_c153) (cs := [4, 10]) (ng := []) (sy := []) rfl 300 10 _ _ _ _ h
theorem y_176P : q_P 176 = (q_c176, 5) := rfl
set_option maxRecDepth 20000 in
theorem y_176 {m : z_M} {g : z_g} {Q : q_V → q_S → Prop} (h :
    z_ok2 (m 109 0) (1 : Int) ∧
    ((1 : Int) ≤ (m 109 0) →
      z_in ((m 109 0) - (1 : Int)) 8 ∧
      z_in ((m 109 0) - (1 : Int)) 8 ∧
      z_in ((m 109 0) - (1 : Int)) 8 ∧
      z_in ((m 109 0) - (1 : Int)) 8 ∧
      z_ok (m 110 (((m 109 0) - (1 : Int)).toNat)) ∧
      (¬ (m 110 (((m 109 0) - (1 : Int)).toNat)) = (0 : Int) →
        z_in ((m 109 0) - (1 : Int)) 8 ∧
        z_ok2 (m 110 (((m 109 0) - (1 : Int)).toNat)) (1 : Int) ∧
        (¬ (m 110 (((m 109 0) - (1 : Int)).toNat)) = (1 : Int) →
          z_in ((m 109 0) - (1 : Int)) 8 ∧
          z_ok2 (m 110 (((m 109 0) - (1 : Int)).toNat)) (2 : Int) ∧
          (¬ (m 110 (((m 109 0) - (1 : Int)).toNat)) = (2 : Int) →
            Q (.inl ((m 109 0) - (1 : Int))) (z_st (q_upd m 109 0 ((m 109 0) - (1 : Int))) g)) ∧
          ((m 110 (((m 109 0) - (1 : Int)).toNat)) = (2 : Int) →
            z_C 45 [.inr (.inr 0), .inl (m 111 (((m 109 0) - (1 : Int)).toNat))] (z_st m g) (fun v S => z_T 176 73 [.inr (.inr 0), .inl ((m 109 0) - (1 : Int)), .inl (m 111 (((m 109 0) - (1 : Int)).toNat)), .inl (m 112 (((m 109 0) - (1 : Int)).toNat)), .inl (m 113 (((m 109 0) - (1 : Int)).toNat))] (q_push v []) S Q))) ∧
        ((m 110 (((m 109 0) - (1 : Int)).toNat)) = (1 : Int) →
          z_C 44 [.inr (.inr 0), .inl (m 111 (((m 109 0) - (1 : Int)).toNat)), .inl (m 112 (((m 109 0) - (1 : Int)).toNat))] (z_st m g) (fun v S => z_T 176 53 [.inr (.inr 0), .inl ((m 109 0) - (1 : Int)), .inl (m 111 (((m 109 0) - (1 : Int)).toNat)), .inl (m 112 (((m 109 0) - (1 : Int)).toNat)), .inl (m 113 (((m 109 0) - (1 : Int)).toNat))] (q_push v []) S Q))) ∧
      ((m 110 (((m 109 0) - (1 : Int)).toNat)) = (0 : Int) →
        Q (.inl ((m 109 0) - (1 : Int))) (z_st (q_upd (q_upd m 1 0 (m 111 (((m 109 0) - (1 : Int)).toNat))) 109 0 ((m 109 0) - (1 : Int))) g))) ∧
    ((m 109 0) < (1 : Int) →
      Q (.inl (-3 : Int)) (z_st m g))) :
    z_C 176 [.inr (.inr 0)] (z_st m g) Q := y_C_wp (cs := [53, 73]) (ng := []) (sy := []) (n := 300) y_176P h
set_option maxRecDepth 20000 in
theorem y_176_53 {m : z_M} {g : z_g} {Q : q_V → q_S → Prop} {a1 a2 a3 a4 s0 : Int} (h :
    z_ok s0 ∧
    (s0 = (0 : Int) →
      z_in a1 8 ∧
      z_ok2 (m 110 ((a1).toNat)) (2 : Int) ∧
      (¬ (m 110 ((a1).toNat)) = (2 : Int) →
        Q (.inl a1) (z_st (q_upd m 109 0 a1) g)) ∧
      ((m 110 ((a1).toNat)) = (2 : Int) →
        z_C 45 [.inr (.inr 0), .inl a2] (z_st m g) (fun v S => z_T 176 73 [.inr (.inr 0), .inl a1, .inl a2, .inl a3, .inl a4] (q_push v []) S Q))) ∧
    (¬ s0 = (0 : Int) →
      z_rw (q_rfz g.1 g.2.1) 6 a2 6 ∧
      z_sp (q_sh0 ++ g.2.2.1) (7 + (a2).toNat) 0 13 ∧ z_in a3 13 ∧
      Q (.inl a1) (z_st (q_upd (q_upd m (7 + (a2).toNat) ((a3).toNat) a4) 109 0 a1) g))) :
    z_T 176 53 [.inr (.inr 0), .inl a1, .inl a2, .inl a3, .inl a4] [.inl s0] (z_st m g) Q := y_wp_T (cd := q_c176) (cs := [53, 73]) (ng := []) (sy := [(61, 13)]) rfl 300 53 _ _ _ _ h
set_option maxRecDepth 20000 in
theorem y_176_73 {m : z_M} {g : z_g} {Q : q_V → q_S → Prop} {a1 a2 a3 a4 s0 : Int} (h :
    z_ok s0 ∧
    (s0 = (0 : Int) →
      Q (.inl a1) (z_st (q_upd m 109 0 a1) g)) ∧
    (¬ s0 = (0 : Int) →
      z_in a2 6 ∧
      z_in a2 6 ∧
      Q (.inl a1) (z_st (q_upd (q_upd (q_upd m 4 ((a2).toNat) a3) 5 ((a2).toNat) a4) 109 0 a1) g))) :
    z_T 176 73 [.inr (.inr 0), .inl a1, .inl a2, .inl a3, .inl a4] [.inl s0] (z_st m g) Q := y_wp_T (cd := q_c176) (cs := [53, 73]) (ng := []) (sy := []) rfl 300 73 _ _ _ _ h
theorem y_177P : q_P 177 = (q_c177, 3) := rfl
theorem y_177 {m : z_M} {g : z_g} {Q : q_V → q_S → Prop} {a1 a2 : Int} (h :
    z_C 92 [.inr (.inr 114), .inl a1] (z_st m g) (fun v S => z_T 177 4 [.inr (.inr 0), .inl a1, .inl a2] (q_push v []) S Q)) :
    z_C 177 [.inr (.inr 0), .inl a1, .inl a2] (z_st m g) Q := y_C_wp (cs := [4, 21]) (ng := []) (sy := []) (n := 300) y_177P h
theorem y_177_4 {m : z_M} {g : z_g} {Q : q_V → q_S → Prop} {a1 a2 s0 : Int} (h :
    z_ok s0 ∧
    (¬ s0 = (0 : Int) →
      z_ok2 a2 (20 : Int) ∧
      (a2 ≤ (20 : Int) →
        z_ok a2 ∧
        ((0 : Int) ≤ a2 →
          z_C 178 [.inr (.inr 114), .inl a1, .inl a2] (z_st m g) (fun v S => z_T 177 21 [.inr (.inr 0), .inl a1, .inl a2] (q_push v []) S Q)) ∧
        (a2 < (0 : Int) →
          Q (.inl (-14 : Int)) (z_st m g))) ∧
      ((20 : Int) < a2 →
        Q (.inl (-2 : Int)) (z_st m g))) ∧
    (s0 = (0 : Int) →
      Q (.inl (-1 : Int)) (z_st m g))) :
    z_T 177 4 [.inr (.inr 0), .inl a1, .inl a2] [.inl s0] (z_st m g) Q := y_wp_T (cd := q_c177) (cs := [4, 21]) (ng := []) (sy := []) rfl 300 4 _ _ _ _ h
theorem y_177_21 {m : z_M} {g : z_g} {Q : q_V → q_S → Prop} {a1 a2 : Int} (h :
    Q (.inl (1 : Int)) (z_st m g)) :
    z_T 177 21 [.inr (.inr 0), .inl a1, .inl a2] [] (z_st m g) Q := y_wp_T (cd := q_c177) (cs := [4, 21]) (ng := []) (sy := []) rfl 300 21 _ _ _ _ h
theorem y_178P : q_P 178 = (q_c178, 3) := rfl
theorem y_178 {m : z_M} {g : z_g} {Q : q_V → q_S → Prop} {a1 a2 : Int} (h :
    z_C 92 [.inr (.inr 114), .inl a1] (z_st m g) (fun v S => z_T 178 3 [.inr (.inr 114), .inl a1, .inl a2] (q_push v []) S Q)) :
    z_C 178 [.inr (.inr 114), .inl a1, .inl a2] (z_st m g) Q := y_C_wp (cs := [3, 15]) (ng := []) (sy := []) (n := 300) y_178P h
theorem y_178_3 {m : z_M} {g : z_g} {Q : q_V → q_S → Prop} {a1 a2 s0 : Int} (h :
    z_ok s0 ∧
    (s0 = (0 : Int) →
      z_T 178 15 [.inr (.inr 114), .inl a1, .inl a2] [] (z_st m g) Q) ∧
    (¬ s0 = (0 : Int) →
      z_in a1 4 ∧
      z_rw (q_rfz g.1 g.2.1) 115 a1 4 ∧
      q_nd [.inr (.inl (0 : Int)), .inr (.inr (116 + (a1).toNat))] ∧
      z_C 179 [.inr (.inr (116 + (a1).toNat)), .inr (.inl (0 : Int))] (z_st (q_upd m 120 ((a1).toNat) a2) g) (fun v S => z_T 178 15 [.inr (.inr 114), .inl a1, .inl a2] (q_push v []) S Q))) :
    z_T 178 3 [.inr (.inr 114), .inl a1, .inl a2] [.inl s0] (z_st m g) Q := y_wp_T (cd := q_c178) (cs := [3, 15]) (ng := [14]) (sy := []) rfl 300 3 _ _ _ _ h
theorem y_178_15 {m : z_M} {g : z_g} {Q : q_V → q_S → Prop} {a1 a2 : Int} (h :
    Q q_dead (z_st m g)) :
    z_T 178 15 [.inr (.inr 114), .inl a1, .inl a2] [] (z_st m g) Q := y_wp_T (cd := q_c178) (cs := [3, 15]) (ng := []) (sy := []) rfl 300 15 _ _ _ _ h
theorem y_179P : q_P 179 = (q_c179, 5) := rfl
theorem y_179 {m : z_M} {g : z_g} {Q : q_V → q_S → Prop} {a1 : Int} {o0 n : Nat} (h :
    o0 < 1000 ∧
    z_sp (q_sh0 ++ g.2.2.1) o0 1 n ∧ 1 < 5 ∧
    z_T 179 5 [.inr (.inr o0), .inr (.inl a1), q_dead, .inl (0 : Int), .inl ((n : Nat) : Int)] [] (z_st m g) Q) :
    z_C 179 [.inr (.inr o0), .inr (.inl a1)] (z_st m g) Q := y_C_wp (cs := [5]) (ng := [2]) (sy := [(3, n), (20003, 1)]) (n := 300) y_179P h
theorem y_179_5 {m : z_M} {g : z_g} {Q : q_V → q_S → Prop} {a1 a3 a4 : Int} {oa0 n : Nat} (h :
    z_ok2 a3 a4 ∧
    (a4 ≤ a3 →
      Q q_dead (z_st m g)) ∧
    (a3 < a4 →
      oa0 < 1000 ∧
      z_sp (q_sh0 ++ g.2.2.1) oa0 1 n ∧ z_in a3 n ∧
      z_T 179 5 [.inr (.inr oa0), .inr (.inl a1), q_dead, .inl (a3 + (1 : Int)), .inl a4] [] (z_st (q_upd m oa0 ((a3).toNat) a1) g) Q)) :
    z_T 179 5 [.inr (.inr oa0), .inr (.inl a1), q_dead, .inl a3, .inl a4] [] (z_st m g) Q := y_wp_T (cd := q_c179) (cs := [5]) (ng := [8]) (sy := [(11, n)]) rfl 300 5 _ _ _ _ h
theorem y_180P : q_P 180 = (q_c180, 5) := rfl
theorem y_180 {m : z_M} {g : z_g} {Q : q_V → q_S → Prop} {a1 a2 a3 : Int} (h :
    z_C 92 [.inr (.inr 114), .inl a1] (z_st m g) (fun v S => z_T 180 4 [.inr (.inr 0), .inl a1, .inl a2, .inr (.inl a3), q_dead] (q_push v []) S Q)) :
    z_C 180 [.inr (.inr 0), .inl a1, .inl a2, .inr (.inl a3)] (z_st m g) Q := y_C_wp (cs := [4, 11, 19]) (ng := []) (sy := []) (n := 300) y_180P h
theorem y_180_4 {m : z_M} {g : z_g} {Q : q_V → q_S → Prop} {a1 a2 a3 s0 : Int} (h :
    z_ok s0 ∧
    (¬ s0 = (0 : Int) →
      z_C 94 [.inr (.inr 114), .inl a1] (z_st m g) (fun v S => z_T 180 11 [.inr (.inr 0), .inl a1, .inl a2, .inr (.inl a3), q_dead] (q_push v []) S Q)) ∧
    (s0 = (0 : Int) →
      Q (.inl (-1 : Int)) (z_st m g))) :
    z_T 180 4 [.inr (.inr 0), .inl a1, .inl a2, .inr (.inl a3), q_dead] [.inl s0] (z_st m g) Q := y_wp_T (cd := q_c180) (cs := [4, 11, 19]) (ng := []) (sy := []) rfl 300 4 _ _ _ _ h
theorem y_180_11 {m : z_M} {g : z_g} {Q : q_V → q_S → Prop} {a1 a2 a3 s0 : Int} (h :
    z_ok s0 ∧
    (¬ s0 = (0 : Int) →
      z_C 98 [.inr (.inr 114), .inl a1, .inl a2] (z_st m g) (fun v S => z_T 180 19 [.inr (.inr 0), .inl a1, .inl a2, .inr (.inl a3), q_dead] (q_push v []) S Q)) ∧
    (s0 = (0 : Int) →
      Q (.inl (-11 : Int)) (z_st m g))) :
    z_T 180 11 [.inr (.inr 0), .inl a1, .inl a2, .inr (.inl a3), q_dead] [.inl s0] (z_st m g) Q := y_wp_T (cd := q_c180) (cs := [4, 11, 19]) (ng := []) (sy := []) rfl 300 11 _ _ _ _ h
theorem y_180_19 {m : z_M} {g : z_g} {Q : q_V → q_S → Prop} {a1 a2 a3 s0 : Int} (h :
    z_ok s0 ∧
    (¬ s0 = (0 : Int) →
      z_rw (q_rfz g.1 g.2.1) 115 a1 4 ∧
      z_sp (q_sh0 ++ g.2.2.1) (116 + (a1).toNat) 1 20 ∧ z_in a2 20 ∧
      Q (.inl (1 : Int)) (z_st (q_upd m (116 + (a1).toNat) ((a2).toNat) a3) g)) ∧
    (s0 = (0 : Int) →
      Q (.inl (-13 : Int)) (z_st m g))) :
    z_T 180 19 [.inr (.inr 0), .inl a1, .inl a2, .inr (.inl a3), q_dead] [.inl s0] (z_st m g) Q := y_wp_T (cd := q_c180) (cs := [4, 11, 19]) (ng := []) (sy := [(29, 20)]) rfl 300 19 _ _ _ _ h
theorem y_181P : q_P 181 = (q_c181, 3) := rfl
theorem y_181 {m : z_M} {g : z_g} {Q : q_V → q_S → Prop} {a1 a2 : Int} (h :
    z_C 98 [.inr (.inr 114), .inl a1, .inl a2] (z_st m g) (fun v S => z_T 181 5 [.inr (.inr 0), .inl a1, .inl a2] (q_push v []) S Q)) :
    z_C 181 [.inr (.inr 0), .inl a1, .inl a2] (z_st m g) Q := y_C_wp (cs := [5]) (ng := []) (sy := []) (n := 300) y_181P h
theorem y_181_5 {m : z_M} {g : z_g} {Q : q_V → q_S → Prop} {a1 a2 s0 : Int} (h :
    z_ok s0 ∧
    (s0 = (0 : Int) →
      Q (.inr (.inl (-9223372036854775808 : Int))) (z_st m g)) ∧
    (¬ s0 = (0 : Int) →
      z_rw (q_rfz g.1 g.2.1) 115 a1 4 ∧
      z_sp (q_sh0 ++ g.2.2.1) (116 + (a1).toNat) 1 20 ∧ z_in a2 20 ∧
      Q (.inr (.inl (m (116 + (a1).toNat) ((a2).toNat)))) (z_st m g))) :
    z_T 181 5 [.inr (.inr 0), .inl a1, .inl a2] [.inl s0] (z_st m g) Q := y_wp_T (cd := q_c181) (cs := [5]) (ng := []) (sy := [(12, 20)]) rfl 300 5 _ _ _ _ h
theorem y_182P : q_P 182 = (q_c182, 6) := rfl
theorem y_182 {m : z_M} {g : z_g} {Q : q_V → q_S → Prop} {a1 a2 a3 a4 a5 : Int} (h :
    z_C 92 [.inr (.inr 114), .inl a1] (z_st m g) (fun v S => z_T 182 4 [.inr (.inr 0), .inl a1, .inl a2, .inl a3, .inl a4, .inl a5] (q_push v []) S Q)) :
    z_C 182 [.inr (.inr 0), .inl a1, .inl a2, .inl a3, .inl a4, .inl a5] (z_st m g) Q := y_C_wp (cs := [4, 9, 16, 21, 35, 43]) (ng := []) (sy := []) (n := 300) y_182P h
theorem y_182_4 {m : z_M} {g : z_g} {Q : q_V → q_S → Prop} {a1 a2 a3 a4 a5 s0 : Int} (h :
    z_ok s0 ∧
    (s0 = (0 : Int) →
      Q (.inl (-1 : Int)) (z_st m g)) ∧
    (¬ s0 = (0 : Int) →
      z_C 92 [.inr (.inr 114), .inl a3] (z_st m g) (fun v S => z_T 182 9 [.inr (.inr 0), .inl a1, .inl a2, .inl a3, .inl a4, .inl a5] (q_push v []) S Q))) :
    z_T 182 4 [.inr (.inr 0), .inl a1, .inl a2, .inl a3, .inl a4, .inl a5] [.inl s0] (z_st m g) Q := y_wp_T (cd := q_c182) (cs := [4, 9, 16, 21, 35, 43]) (ng := []) (sy := []) rfl 300 4 _ _ _ _ h
theorem y_182_9 {m : z_M} {g : z_g} {Q : q_V → q_S → Prop} {a1 a2 a3 a4 a5 s0 : Int} (h :
    z_ok s0 ∧
    (¬ s0 = (0 : Int) →
      z_C 94 [.inr (.inr 114), .inl a1] (z_st m g) (fun v S => z_T 182 16 [.inr (.inr 0), .inl a1, .inl a2, .inl a3, .inl a4, .inl a5] (q_push v []) S Q)) ∧
    (s0 = (0 : Int) →
      Q (.inl (-1 : Int)) (z_st m g))) :
    z_T 182 9 [.inr (.inr 0), .inl a1, .inl a2, .inl a3, .inl a4, .inl a5] [.inl s0] (z_st m g) Q := y_wp_T (cd := q_c182) (cs := [4, 9, 16, 21, 35, 43]) (ng := []) (sy := []) rfl 300 9 _ _ _ _ h
theorem y_182_16 {m : z_M} {g : z_g} {Q : q_V → q_S → Prop} {a1 a2 a3 a4 a5 s0 : Int} (h :
    z_ok s0 ∧
    (s0 = (0 : Int) →
      Q (.inl (-11 : Int)) (z_st m g)) ∧
    (¬ s0 = (0 : Int) →
      z_C 94 [.inr (.inr 114), .inl a3] (z_st m g) (fun v S => z_T 182 21 [.inr (.inr 0), .inl a1, .inl a2, .inl a3, .inl a4, .inl a5] (q_push v []) S Q))) :
    z_T 182 16 [.inr (.inr 0), .inl a1, .inl a2, .inl a3, .inl a4, .inl a5] [.inl s0] (z_st m g) Q := y_wp_T (cd := q_c182) (cs := [4, 9, 16, 21, 35, 43]) (ng := []) (sy := []) rfl 300 16 _ _ _ _ h
theorem y_182_21 {m : z_M} {g : z_g} {Q : q_V → q_S → Prop} {a1 a2 a3 a4 a5 s0 : Int} (h :
    z_ok s0 ∧
    (¬ s0 = (0 : Int) →
      z_ok a5 ∧
      (a5 < (0 : Int) →
        Q (.inl (-13 : Int)) (z_st m g)) ∧
      ((0 : Int) ≤ a5 →
        z_ok a2 ∧
        (a2 < (0 : Int) →
          Q (.inl (-13 : Int)) (z_st m g)) ∧
        ((0 : Int) ≤ a2 →
          z_ok a4 ∧
          (a4 < (0 : Int) →
            Q (.inl (-13 : Int)) (z_st m g)) ∧
          ((0 : Int) ≤ a4 →
            z_C 95 [.inr (.inr 114), .inl a1] (z_st m g) (fun v S => z_T 182 35 [.inr (.inr 0), .inl a1, .inl a2, .inl a3, .inl a4, .inl a5] (q_push v [.inl a2]) S Q))))) ∧
    (s0 = (0 : Int) →
      Q (.inl (-11 : Int)) (z_st m g))) :
    z_T 182 21 [.inr (.inr 0), .inl a1, .inl a2, .inl a3, .inl a4, .inl a5] [.inl s0] (z_st m g) Q := y_wp_T (cd := q_c182) (cs := [4, 9, 16, 21, 35, 43]) (ng := []) (sy := []) rfl 300 21 _ _ _ _ h
theorem y_182_35 {m : z_M} {g : z_g} {Q : q_V → q_S → Prop} {a1 a2 a3 a4 a5 s0 s1 : Int} (h :
    z_ok2 s1 (s0 - a5) ∧
    ((s0 - a5) < s1 →
      Q (.inl (-13 : Int)) (z_st m g)) ∧
    (s1 ≤ (s0 - a5) →
      z_C 95 [.inr (.inr 114), .inl a3] (z_st m g) (fun v S => z_T 182 43 [.inr (.inr 0), .inl a1, .inl a2, .inl a3, .inl a4, .inl a5] (q_push v [.inl a4]) S Q))) :
    z_T 182 35 [.inr (.inr 0), .inl a1, .inl a2, .inl a3, .inl a4, .inl a5] [.inl s0, .inl s1] (z_st m g) Q := y_wp_T (cd := q_c182) (cs := [4, 9, 16, 21, 35, 43]) (ng := []) (sy := []) rfl 300 35 _ _ _ _ h
theorem y_182_43 {m : z_M} {g : z_g} {Q : q_V → q_S → Prop} {a1 a2 a3 a4 a5 s0 s1 : Int} (h :
    z_ok2 s1 (s0 - a5) ∧
    (s1 ≤ (s0 - a5) →
      z_rw (q_rfz g.1 g.2.1) 115 a1 4 ∧
      z_rw (q_rfz g.1 g.2.1) 115 a3 4 ∧
      (z_sp (q_sh0 ++ g.2.2.1) (116 + (a1).toNat) 1 20 ∧ z_sp (q_sh0 ++ g.2.2.1) (116 + (a3).toNat) 1 20) ∧ (0 ≤ a5 ∧ 0 ≤ a2 ∧ 0 ≤ a4 ∧ a2 + a5 ≤ ((20 : Nat) : Int) ∧ a4 + a5 ≤ ((20 : Nat) : Int)) ∧
      Q (.inl a5) (z_st (q_cpy m (116 + (a1).toNat) ((a2).toNat) (116 + (a3).toNat) ((a4).toNat) ((a5).toNat)) g)) ∧
    ((s0 - a5) < s1 →
      Q (.inl (-13 : Int)) (z_st m g))) :
    z_T 182 43 [.inr (.inr 0), .inl a1, .inl a2, .inl a3, .inl a4, .inl a5] [.inl s0, .inl s1] (z_st m g) Q := y_wp_T (cd := q_c182) (cs := [4, 9, 16, 21, 35, 43]) (ng := []) (sy := [(61, 20), (10061, 20), (20061, 1)]) rfl 300 43 _ _ _ _ h
theorem y_183P : q_P 183 = (q_c183, 1) := rfl
theorem y_183 {m : z_M} {g : z_g} {Q : q_V → q_S → Prop} (h :
    z_C 184 [.inr (.inr 15), .inr (.inr 1)] (z_st m g) (fun v S => z_T 183 5 [.inr (.inr 0)] (q_push v []) S Q)) :
    z_C 183 [.inr (.inr 0)] (z_st m g) Q := y_C_wp (cs := [5]) (ng := []) (sy := []) (n := 300) y_183P h
theorem y_183_5 {m : z_M} {g : z_g} {Q : q_V → q_S → Prop} (h :
    (((1 : Int) = 1 → (1 : Int) = 0 ∨ (1 : Int) = 1) ∧ ((1 : Int) = 2 → -128 ≤ (1 : Int) ∧ (1 : Int) < 128)) ∧
    Q (.inl (m 1 3)) (z_st (q_upd m 0 2 (1 : Int)) g)) :
    z_T 183 5 [.inr (.inr 0)] [] (z_st m g) Q := y_wp_T (cd := q_c183) (cs := [5]) (ng := []) (sy := []) rfl 300 5 _ _ _ _ h
theorem y_184aP : q_P 184 = (q_c184, 3) := rfl
theorem y_184a {m : z_M} {g : z_g} {Q : q_V → q_S → Prop} (h :
    (0 ≤ (6 : Int) ∧ 0 ≤ (0 : Int) ∧ 0 ≤ (0 : Int) ∧ (0 : Int) + (6 : Int) ≤ ((6 : Nat) : Int) ∧ (0 : Int) + (6 : Int) ≤ ((6 : Nat) : Int)) ∧
    (0 ≤ (6 : Int) ∧ 0 ≤ (0 : Int) ∧ 0 ≤ (0 : Int) ∧ (0 : Int) + (6 : Int) ≤ ((6 : Nat) : Int) ∧ (0 : Int) + (6 : Int) ≤ ((6 : Nat) : Int)) ∧
    (0 ≤ (6 : Int) ∧ 0 ≤ (0 : Int) ∧ 0 ≤ (0 : Int) ∧ (0 : Int) + (6 : Int) ≤ ((6 : Nat) : Int) ∧ (0 : Int) + (6 : Int) ≤ ((6 : Nat) : Int)) ∧
    (0 ≤ (6 : Int) ∧ 0 ≤ (0 : Int) ∧ 0 ≤ (0 : Int) ∧ (0 : Int) + (6 : Int) ≤ ((6 : Nat) : Int) ∧ (0 : Int) + (6 : Int) ≤ ((6 : Nat) : Int)) ∧
    z_T 184 50 [.inr (.inr 15), .inr (.inr 1), .inl (0 : Int)] [] (z_st (q_cpy (q_cpy (q_cpy (q_cpy (q_upd (q_upd (q_upd (q_upd m 15 0 (m 1 0)) 15 1 (m 1 1)) 15 3 (m 1 3)) 15 8 (m 1 8)) 2 (((0 : Int)).toNat) 16 (((0 : Int)).toNat) (((6 : Int)).toNat)) 3 (((0 : Int)).toNat) 17 (((0 : Int)).toNat) (((6 : Int)).toNat)) 4 (((0 : Int)).toNat) 18 (((0 : Int)).toNat) (((6 : Int)).toNat)) 5 (((0 : Int)).toNat) 19 (((0 : Int)).toNat) (((6 : Int)).toNat)) g) Q) :
    z_C 184 [.inr (.inr 15), .inr (.inr 1)] (z_st m g) Q := y_C_wp (cs := [50]) (ng := []) (sy := []) (n := 300) y_184aP h
theorem y_184a_50 {m : z_M} {g : z_g} {Q : q_V → q_S → Prop} {a2 : Int} (h :
    z_ok2 a2 (6 : Int) ∧
    ((6 : Int) ≤ a2 →
      (0 ≤ (4 : Int) ∧ 0 ≤ (0 : Int) ∧ 0 ≤ (0 : Int) ∧ (0 : Int) + (4 : Int) ≤ ((4 : Nat) : Int) ∧ (0 : Int) + (4 : Int) ≤ ((4 : Nat) : Int)) ∧
      (0 ≤ (4 : Int) ∧ 0 ≤ (0 : Int) ∧ 0 ≤ (0 : Int) ∧ (0 : Int) + (4 : Int) ≤ ((4 : Nat) : Int) ∧ (0 : Int) + (4 : Int) ≤ ((4 : Nat) : Int)) ∧
      Q q_dead (z_st (q_cpy (q_cpy m 13 (((0 : Int)).toNat) 27 (((0 : Int)).toNat) (((4 : Int)).toNat)) 14 (((0 : Int)).toNat) 28 (((0 : Int)).toNat) (((4 : Int)).toNat)) g)) ∧
    (a2 < (6 : Int) →
      z_rw (q_rfz g.1 g.2.1) 6 a2 6 ∧
      z_rw (q_rfz g.1 g.2.1) 20 a2 6 ∧
      (z_sp (q_sh0 ++ g.2.2.1) (7 + (a2).toNat) 0 13 ∧ z_sp (q_sh0 ++ g.2.2.1) (21 + (a2).toNat) 0 13) ∧ (0 ≤ (13 : Int) ∧ 0 ≤ (0 : Int) ∧ 0 ≤ (0 : Int) ∧ (0 : Int) + (13 : Int) ≤ ((13 : Nat) : Int) ∧ (0 : Int) + (13 : Int) ≤ ((13 : Nat) : Int)) ∧
      z_T 184 50 [.inr (.inr 15), .inr (.inr 1), .inl (a2 + (1 : Int))] [] (z_st (q_cpy m (7 + (a2).toNat) (((0 : Int)).toNat) (21 + (a2).toNat) (((0 : Int)).toNat) (((13 : Int)).toNat)) g) Q)) :
    z_T 184 50 [.inr (.inr 15), .inr (.inr 1), .inl a2] [] (z_st m g) Q := y_wp_T (cd := q_c184) (cs := [50]) (ng := []) (sy := [(64, 13), (10064, 13), (20064, 0)]) rfl 300 50 _ _ _ _ h
theorem y_184bP : q_P 184 = (q_c184, 3) := rfl
theorem y_184b {m : z_M} {g : z_g} {Q : q_V → q_S → Prop} (h :
    (0 ≤ (6 : Int) ∧ 0 ≤ (0 : Int) ∧ 0 ≤ (0 : Int) ∧ (0 : Int) + (6 : Int) ≤ ((6 : Nat) : Int) ∧ (0 : Int) + (6 : Int) ≤ ((6 : Nat) : Int)) ∧
    (0 ≤ (6 : Int) ∧ 0 ≤ (0 : Int) ∧ 0 ≤ (0 : Int) ∧ (0 : Int) + (6 : Int) ≤ ((6 : Nat) : Int) ∧ (0 : Int) + (6 : Int) ≤ ((6 : Nat) : Int)) ∧
    (0 ≤ (6 : Int) ∧ 0 ≤ (0 : Int) ∧ 0 ≤ (0 : Int) ∧ (0 : Int) + (6 : Int) ≤ ((6 : Nat) : Int) ∧ (0 : Int) + (6 : Int) ≤ ((6 : Nat) : Int)) ∧
    (0 ≤ (6 : Int) ∧ 0 ≤ (0 : Int) ∧ 0 ≤ (0 : Int) ∧ (0 : Int) + (6 : Int) ≤ ((6 : Nat) : Int) ∧ (0 : Int) + (6 : Int) ≤ ((6 : Nat) : Int)) ∧
    z_T 184 50 [.inr (.inr 1), .inr (.inr 15), .inl (0 : Int)] [] (z_st (q_cpy (q_cpy (q_cpy (q_cpy (q_upd (q_upd (q_upd (q_upd m 1 0 (m 15 0)) 1 1 (m 15 1)) 1 3 (m 15 3)) 1 8 (m 15 8)) 16 (((0 : Int)).toNat) 2 (((0 : Int)).toNat) (((6 : Int)).toNat)) 17 (((0 : Int)).toNat) 3 (((0 : Int)).toNat) (((6 : Int)).toNat)) 18 (((0 : Int)).toNat) 4 (((0 : Int)).toNat) (((6 : Int)).toNat)) 19 (((0 : Int)).toNat) 5 (((0 : Int)).toNat) (((6 : Int)).toNat)) g) Q) :
    z_C 184 [.inr (.inr 1), .inr (.inr 15)] (z_st m g) Q := y_C_wp (cs := [50]) (ng := []) (sy := []) (n := 300) y_184bP h
theorem y_184b_50 {m : z_M} {g : z_g} {Q : q_V → q_S → Prop} {a2 : Int} (h :
    z_ok2 a2 (6 : Int) ∧
    ((6 : Int) ≤ a2 →
      (0 ≤ (4 : Int) ∧ 0 ≤ (0 : Int) ∧ 0 ≤ (0 : Int) ∧ (0 : Int) + (4 : Int) ≤ ((4 : Nat) : Int) ∧ (0 : Int) + (4 : Int) ≤ ((4 : Nat) : Int)) ∧
      (0 ≤ (4 : Int) ∧ 0 ≤ (0 : Int) ∧ 0 ≤ (0 : Int) ∧ (0 : Int) + (4 : Int) ≤ ((4 : Nat) : Int) ∧ (0 : Int) + (4 : Int) ≤ ((4 : Nat) : Int)) ∧
      Q q_dead (z_st (q_cpy (q_cpy m 27 (((0 : Int)).toNat) 13 (((0 : Int)).toNat) (((4 : Int)).toNat)) 28 (((0 : Int)).toNat) 14 (((0 : Int)).toNat) (((4 : Int)).toNat)) g)) ∧
    (a2 < (6 : Int) →
      z_rw (q_rfz g.1 g.2.1) 20 a2 6 ∧
      z_rw (q_rfz g.1 g.2.1) 6 a2 6 ∧
      (z_sp (q_sh0 ++ g.2.2.1) (21 + (a2).toNat) 0 13 ∧ z_sp (q_sh0 ++ g.2.2.1) (7 + (a2).toNat) 0 13) ∧ (0 ≤ (13 : Int) ∧ 0 ≤ (0 : Int) ∧ 0 ≤ (0 : Int) ∧ (0 : Int) + (13 : Int) ≤ ((13 : Nat) : Int) ∧ (0 : Int) + (13 : Int) ≤ ((13 : Nat) : Int)) ∧
      z_T 184 50 [.inr (.inr 1), .inr (.inr 15), .inl (a2 + (1 : Int))] [] (z_st (q_cpy m (21 + (a2).toNat) (((0 : Int)).toNat) (7 + (a2).toNat) (((0 : Int)).toNat) (((13 : Int)).toNat)) g) Q)) :
    z_T 184 50 [.inr (.inr 1), .inr (.inr 15), .inl a2] [] (z_st m g) Q := y_wp_T (cd := q_c184) (cs := [50]) (ng := []) (sy := [(64, 13), (10064, 13), (20064, 0)]) rfl 300 50 _ _ _ _ h
theorem y_185P : q_P 185 = (q_c185, 1) := rfl
theorem y_185 {m : z_M} {g : z_g} {Q : q_V → q_S → Prop} (h :
    z_ok (m 0 2) ∧
    (¬ (m 0 2) = (0 : Int) →
      z_C 184 [.inr (.inr 1), .inr (.inr 15)] (z_st m g) (fun v S => z_T 185 10 [.inr (.inr 0)] (q_push v []) S Q)) ∧
    ((m 0 2) = (0 : Int) →
      Q (.inl (-3 : Int)) (z_st m g))) :
    z_C 185 [.inr (.inr 0)] (z_st m g) Q := y_C_wp (cs := [10, 13]) (ng := []) (sy := []) (n := 300) y_185P h
theorem y_185_10 {m : z_M} {g : z_g} {Q : q_V → q_S → Prop} (h :
    z_C 21 [.inr (.inr 109)] (z_st m g) (fun v S => z_T 185 13 [.inr (.inr 0)] (q_push v []) S Q)) :
    z_T 185 10 [.inr (.inr 0)] [] (z_st m g) Q := y_wp_T (cd := q_c185) (cs := [10, 13]) (ng := []) (sy := []) rfl 300 10 _ _ _ _ h
theorem y_185_13 {m : z_M} {g : z_g} {Q : q_V → q_S → Prop} (h :
    Q (.inl (m 1 3)) (z_st m g)) :
    z_T 185 13 [.inr (.inr 0)] [] (z_st m g) Q := y_wp_T (cd := q_c185) (cs := [10, 13]) (ng := []) (sy := []) rfl 300 13 _ _ _ _ h
theorem y_186P : q_P 186 = (q_c186, 2) := rfl
theorem y_186 {m : z_M} {g : z_g} {Q : q_V → q_S → Prop} {a1 : Int} (h :
    z_ok a1 ∧
    (a1 = (0 : Int) → z_C 50 [.inr (.inr 1)] (z_st m g) (fun v S => z_T 186 5 [.inr (.inr 0), .inl a1] (q_push v []) S Q)) ∧
    (¬ a1 = (0 : Int) → (a1 = (1 : Int) → Q (.inl (m 1 1)) (z_st m g)) ∧
    (¬ a1 = (1 : Int) → (a1 = (2 : Int) → Q (.inl (m 1 3)) (z_st m g)) ∧
    (¬ a1 = (2 : Int) → (a1 = (3 : Int) → Q (.inl (m 1 8)) (z_st m g)) ∧
    (¬ a1 = (3 : Int) → (a1 = (4 : Int) → Q (.inl (m 121 1)) (z_st m g)) ∧
    (¬ a1 = (4 : Int) → (a1 = (5 : Int) → z_C 162 [.inr (.inr 125)] (z_st m g) (fun v S => z_T 186 25 [.inr (.inr 0), .inl a1] (q_push v []) S Q)) ∧
    (¬ a1 = (5 : Int) → (a1 = (6 : Int) → Q (.inl (m 109 0)) (z_st m g)) ∧
    (¬ a1 = (6 : Int) → (a1 = (7 : Int) → Q (.inl (m 127 0)) (z_st m g)) ∧
    (¬ a1 = (7 : Int) → Q (.inl (-2 : Int)) (z_st m g)))))))))) :
    z_C 186 [.inr (.inr 0), .inl a1] (z_st m g) Q := y_C_wp (cs := [5, 25]) (ng := []) (sy := []) (n := 300) y_186P h
theorem y_186_5 {m : z_M} {g : z_g} {Q : q_V → q_S → Prop} {a1 s0 : Int} (h :
    Q (.inl s0) (z_st m g)) :
    z_T 186 5 [.inr (.inr 0), .inl a1] [.inl s0] (z_st m g) Q := y_wp_T (cd := q_c186) (cs := [5, 25]) (ng := []) (sy := []) rfl 300 5 _ _ _ _ h
theorem y_186_25 {m : z_M} {g : z_g} {Q : q_V → q_S → Prop} {a1 s0 : Int} (h :
    Q (.inl s0) (z_st m g)) :
    z_T 186 25 [.inr (.inr 0), .inl a1] [.inl s0] (z_st m g) Q := y_wp_T (cd := q_c186) (cs := [5, 25]) (ng := []) (sy := []) rfl 300 25 _ _ _ _ h
theorem y_187P : q_P 187 = (q_c187, 3) := rfl
theorem y_187 {m : z_M} {g : z_g} {Q : q_V → q_S → Prop} {a1 : Int} (h :
    z_C 188 [.inl a1, .inl (0 : Int), .inl (8 : Int)] (z_st m g) (fun v S => z_T 187 4 [.inr (.inr 131), .inl a1, q_dead] (q_push v []) S Q)) :
    z_C 187 [.inr (.inr 131), .inl a1] (z_st m g) Q := y_C_wp (cs := [4, 15]) (ng := []) (sy := []) (n := 300) y_187P h
theorem y_187_4 {m : z_M} {g : z_g} {Q : q_V → q_S → Prop} {a1 s0 : Int} (h :
    z_ok s0 ∧
    (¬ s0 = (0 : Int) →
      z_C 189 [.inr (.inr 131), .inl (-1 : Int), .inl (0 : Int), .inl (m 131 1)] (z_st m g) (fun v S => z_T 187 15 [.inr (.inr 131), .inl a1, .inl (m 131 1)] (q_push v []) S Q)) ∧
    (s0 = (0 : Int) →
      Q (.inl (-1 : Int)) (z_st m g))) :
    z_T 187 4 [.inr (.inr 131), .inl a1, q_dead] [.inl s0] (z_st m g) Q := y_wp_T (cd := q_c187) (cs := [4, 15]) (ng := []) (sy := []) rfl 300 4 _ _ _ _ h
theorem y_187_15 {m : z_M} {g : z_g} {Q : q_V → q_S → Prop} {a1 a2 : Int} (h :
    Q (.inl a2) (z_st (q_upd m 131 1 a1) g)) :
    z_T 187 15 [.inr (.inr 131), .inl a1, .inl a2] [] (z_st m g) Q := y_wp_T (cd := q_c187) (cs := [4, 15]) (ng := []) (sy := []) rfl 300 15 _ _ _ _ h
theorem y_188P : q_P 188 = (q_c188, 3) := rfl
theorem y_188 {m : z_M} {g : z_g} {Q : q_V → q_S → Prop} {a0 a1 a2 : Int} (h :
    z_ok2 a0 a1 ∧
    (a0 < a1 →
      Q (.inl (0 : Int)) (z_st m g)) ∧
    (a1 ≤ a0 →
      z_ok2 a0 a2 ∧
      (a2 < a0 →
        Q (.inl (0 : Int)) (z_st m g)) ∧
      (a0 ≤ a2 →
        Q (.inl (1 : Int)) (z_st m g)))) :
    z_C 188 [.inl a0, .inl a1, .inl a2] (z_st m g) Q := y_C_wp (cs := []) (ng := []) (sy := []) (n := 300) y_188P h
theorem y_189P : q_P 189 = (q_c189, 5) := rfl
theorem y_189 {m : z_M} {g : z_g} {Q : q_V → q_S → Prop} {a1 a2 a3 : Int} (h :
    z_ok2 (m 131 41) (8 : Int) ∧
    (¬ (m 131 41) = (8 : Int) →
      z_in (m 131 41) 8 ∧
      z_in (m 131 41) 8 ∧
      z_in (m 131 41) 8 ∧
      Q q_dead (z_st (q_upd (q_upd (q_upd (q_upd m 158 ((m 131 41).toNat) a1) 159 ((m 131 41).toNat) a2) 160 ((m 131 41).toNat) a3) 131 41 ((m 131 41) + (1 : Int))) g)) ∧
    ((m 131 41) = (8 : Int) →
      z_T 189 6 [.inr (.inr 131), .inl a1, .inl a2, .inl a3, .inl (1 : Int)] [] (z_st m g) Q)) :
    z_C 189 [.inr (.inr 131), .inl a1, .inl a2, .inl a3] (z_st m g) Q := y_C_wp (cs := [6]) (ng := []) (sy := []) (n := 300) y_189P h
theorem y_189_6 {m : z_M} {g : z_g} {Q : q_V → q_S → Prop} {a1 a2 a3 a4 : Int} (h :
    z_ok2 a4 (8 : Int) ∧
    ((8 : Int) ≤ a4 →
      z_in ((m 131 41) - (1 : Int)) 8 ∧
      z_in ((m 131 41) - (1 : Int)) 8 ∧
      z_in ((m 131 41) - (1 : Int)) 8 ∧
      Q q_dead (z_st (q_upd (q_upd (q_upd (q_upd (q_upd m 131 41 ((m 131 41) - (1 : Int))) 158 (((m 131 41) - (1 : Int)).toNat) a1) 159 (((m 131 41) - (1 : Int)).toNat) a2) 160 (((m 131 41) - (1 : Int)).toNat) a3) 131 41 (((m 131 41) - (1 : Int)) + (1 : Int))) g)) ∧
    (a4 < (8 : Int) →
      z_in a4 8 ∧
      z_in (a4 - (1 : Int)) 8 ∧
      z_in a4 8 ∧
      z_in (a4 - (1 : Int)) 8 ∧
      z_in a4 8 ∧
      z_in (a4 - (1 : Int)) 8 ∧
      z_T 189 6 [.inr (.inr 131), .inl a1, .inl a2, .inl a3, .inl (a4 + (1 : Int))] [] (z_st (q_upd (q_upd (q_upd m 158 ((a4 - (1 : Int)).toNat) (m 158 ((a4).toNat))) 159 ((a4 - (1 : Int)).toNat) (m 159 ((a4).toNat))) 160 ((a4 - (1 : Int)).toNat) (m 160 ((a4).toNat))) g) Q)) :
    z_T 189 6 [.inr (.inr 131), .inl a1, .inl a2, .inl a3, .inl a4] [] (z_st m g) Q := y_wp_T (cd := q_c189) (cs := [6]) (ng := []) (sy := []) rfl 300 6 _ _ _ _ h
theorem y_190P : q_P 190 = (q_c190, 2) := rfl
theorem y_190 {m : z_M} {g : z_g} {Q : q_V → q_S → Prop} {a1 : Int} (h :
    z_C 191 [.inl a1] (z_st m g) (fun v S => z_T 190 2 [.inr (.inr 131), .inl a1] (q_push v []) S Q)) :
    z_C 190 [.inr (.inr 131), .inl a1] (z_st m g) Q := y_C_wp (cs := [2, 17]) (ng := []) (sy := []) (n := 300) y_190P h
theorem y_190_2 {m : z_M} {g : z_g} {Q : q_V → q_S → Prop} {a1 s0 : Int} (h :
    z_ok s0 ∧
    (¬ s0 = (0 : Int) →
      z_ok2 (m 131 3) (6 : Int) ∧
      (¬ (m 131 3) = (6 : Int) →
        z_C 193 [.inr (.inr 131), .inl a1] (z_st (q_upd m 131 41 (0 : Int)) g) (fun v S => z_T 190 17 [.inr (.inr 131), .inl a1] (q_push v []) S Q)) ∧
      ((m 131 3) = (6 : Int) →
        Q (.inl (-4 : Int)) (z_st m g))) ∧
    (s0 = (0 : Int) →
      Q (.inl (-2 : Int)) (z_st m g))) :
    z_T 190 2 [.inr (.inr 131), .inl a1] [.inl s0] (z_st m g) Q := y_wp_T (cd := q_c190) (cs := [2, 17]) (ng := []) (sy := []) rfl 300 2 _ _ _ _ h
theorem y_190_17 {m : z_M} {g : z_g} {Q : q_V → q_S → Prop} {a1 s0 : Int} (h :
    Q (.inl s0) (z_st m g)) :
    z_T 190 17 [.inr (.inr 131), .inl a1] [.inl s0] (z_st m g) Q := y_wp_T (cd := q_c190) (cs := [2, 17]) (ng := []) (sy := []) rfl 300 17 _ _ _ _ h
theorem y_191P : q_P 191 = (q_c191, 1) := rfl
theorem y_191 {m : z_M} {g : z_g} {Q : q_V → q_S → Prop} {a0 : Int} (h :
    z_ok a0 ∧
    (a0 < (0 : Int) →
      Q (.inl (0 : Int)) (z_st m g)) ∧
    ((0 : Int) ≤ a0 →
      z_ok2 a0 (8192 : Int) ∧
      ((8192 : Int) ≤ a0 →
        Q (.inl (0 : Int)) (z_st m g)) ∧
      (a0 < (8192 : Int) →
        z_C 192 [.inl a0] (z_st m g) (fun v S => z_T 191 7 [.inl a0] (q_push v []) S Q)))) :
    z_C 191 [.inl a0] (z_st m g) Q := y_C_wp (cs := [7, 10]) (ng := []) (sy := []) (n := 300) y_191P h
theorem y_191_7 {m : z_M} {g : z_g} {Q : q_V → q_S → Prop} {a0 s0 : Int} (h :
    z_C 188 [.inl s0, .inl (2 : Int), .inl (6 : Int)] (z_st m g) (fun v S => z_T 191 10 [.inl a0] (q_push v []) S Q)) :
    z_T 191 7 [.inl a0] [.inl s0] (z_st m g) Q := y_wp_T (cd := q_c191) (cs := [7, 10]) (ng := []) (sy := []) rfl 300 7 _ _ _ _ h
theorem y_191_10 {m : z_M} {g : z_g} {Q : q_V → q_S → Prop} {a0 s0 : Int} (h :
    z_ok s0 ∧
    (s0 = (0 : Int) →
      Q (.inl (0 : Int)) (z_st m g)) ∧
    (¬ s0 = (0 : Int) →
      Q (.inl (1 : Int)) (z_st m g))) :
    z_T 191 10 [.inl a0] [.inl s0] (z_st m g) Q := y_wp_T (cd := q_c191) (cs := [7, 10]) (ng := []) (sy := []) rfl 300 10 _ _ _ _ h
theorem y_192P : q_P 192 = (q_c192, 3) := rfl
theorem y_192 {m : z_M} {g : z_g} {Q : q_V → q_S → Prop} {a0 : Int} (h :
    z_T 192 4 [.inl a0, .inl (0 : Int), .inl (0 : Int)] [] (z_st m g) Q) :
    z_C 192 [.inl a0] (z_st m g) Q := y_C_wp (cs := [4]) (ng := []) (sy := []) (n := 300) y_192P h
theorem y_192_4 {m : z_M} {g : z_g} {Q : q_V → q_S → Prop} {a0 a1 a2 : Int} (h :
    z_ok2 a2 (13 : Int) ∧
    ((13 : Int) ≤ a2 →
      Q (.inl a1) (z_st m g)) ∧
    (a2 < (13 : Int) →
      z_T 192 4 [.inl a0, .inl (a1 + (q_bin 3 (q_bin 7 a0 a2) (1 : Int))), .inl (a2 + (1 : Int))] [] (z_st m g) Q)) :
    z_T 192 4 [.inl a0, .inl a1, .inl a2] [] (z_st m g) Q := y_wp_T (cd := q_c192) (cs := [4]) (ng := []) (sy := []) rfl 300 4 _ _ _ _ h
theorem y_193P : q_P 193 = (q_c193, 2) := rfl
theorem y_193 {m : z_M} {g : z_g} {Q : q_V → q_S → Prop} {a1 : Int} (h :
    z_in (m 131 3) 6 ∧
    Q (.inl (((m 131 3) + (1 : Int)) - (1 : Int))) (z_st (q_upd (q_upd m 133 ((m 131 3).toNat) a1) 131 3 ((m 131 3) + (1 : Int))) g)) :
    z_C 193 [.inr (.inr 131), .inl a1] (z_st m g) Q := y_C_wp (cs := []) (ng := []) (sy := []) (n := 300) y_193P h
theorem y_194P : q_P 194 = (q_c194, 4) := rfl
theorem y_194 {m : z_M} {g : z_g} {Q : q_V → q_S → Prop} {a1 a2 : Int} (h :
    z_C 195 [.inr (.inr 131), .inl a1] (z_st m g) (fun v S => z_T 194 3 [.inr (.inr 131), .inl a1, .inl a2, q_dead] (q_push v []) S Q)) :
    z_C 194 [.inr (.inr 131), .inl a1, .inl a2] (z_st m g) Q := y_C_wp (cs := [3, 17, 20, 23, 26, 28, 32, 35]) (ng := []) (sy := []) (n := 300) y_194P h
theorem y_194_3 {m : z_M} {g : z_g} {Q : q_V → q_S → Prop} {a1 a2 s0 : Int} (h :
    z_ok s0 ∧
    (¬ s0 = (0 : Int) →
      z_in a1 6 ∧
      z_ok a2 ∧
      (a2 = (0 : Int) → Q (.inl (m 133 ((a1).toNat))) (z_st m g)) ∧
      (¬ a2 = (0 : Int) → (a2 = (1 : Int) → z_C 192 [.inl (m 133 ((a1).toNat))] (z_st m g) (fun v S => z_T 194 17 [.inr (.inr 131), .inl a1, .inl a2, .inl (m 133 ((a1).toNat))] (q_push v []) S Q)) ∧
      (¬ a2 = (1 : Int) → (a2 = (2 : Int) → z_C 196 [.inl (m 133 ((a1).toNat))] (z_st m g) (fun v S => z_T 194 20 [.inr (.inr 131), .inl a1, .inl a2, .inl (m 133 ((a1).toNat))] (q_push v []) S Q)) ∧
      (¬ a2 = (2 : Int) → (a2 = (3 : Int) → z_C 200 [.inl (m 133 ((a1).toNat))] (z_st m g) (fun v S => z_T 194 23 [.inr (.inr 131), .inl a1, .inl a2, .inl (m 133 ((a1).toNat))] (q_push v []) S Q)) ∧
      (¬ a2 = (3 : Int) → (a2 = (4 : Int) → z_C 196 [.inl (m 133 ((a1).toNat))] (z_st m g) (fun v S => z_T 194 26 [.inr (.inr 131), .inl a1, .inl a2, .inl (m 133 ((a1).toNat))] (q_push v []) S Q)) ∧
      (¬ a2 = (4 : Int) → (a2 = (5 : Int) → z_C 202 [.inl (m 133 ((a1).toNat))] (z_st m g) (fun v S => z_T 194 32 [.inr (.inr 131), .inl a1, .inl a2, .inl (m 133 ((a1).toNat))] (q_push v []) S Q)) ∧
      (¬ a2 = (5 : Int) → (a2 = (6 : Int) → z_C 192 [.inl (m 133 ((a1).toNat))] (z_st m g) (fun v S => z_T 194 35 [.inr (.inr 131), .inl a1, .inl a2, .inl (m 133 ((a1).toNat))] (q_push v []) S Q)) ∧
      (¬ a2 = (6 : Int) → Q (.inl (-1 : Int)) (z_st m g))))))))) ∧
    (s0 = (0 : Int) →
      Q (.inl (-1 : Int)) (z_st m g))) :
    z_T 194 3 [.inr (.inr 131), .inl a1, .inl a2, q_dead] [.inl s0] (z_st m g) Q := y_wp_T (cd := q_c194) (cs := [3, 17, 20, 23, 26, 28, 32, 35]) (ng := []) (sy := []) rfl 300 3 _ _ _ _ h
theorem y_194_17 {m : z_M} {g : z_g} {Q : q_V → q_S → Prop} {a1 a2 a3 s0 : Int} (h :
    Q (.inl s0) (z_st m g)) :
    z_T 194 17 [.inr (.inr 131), .inl a1, .inl a2, .inl a3] [.inl s0] (z_st m g) Q := y_wp_T (cd := q_c194) (cs := [3, 17, 20, 23, 26, 28, 32, 35]) (ng := []) (sy := []) rfl 300 17 _ _ _ _ h
theorem y_194_20 {m : z_M} {g : z_g} {Q : q_V → q_S → Prop} {a1 a2 a3 s0 : Int} (h :
    Q (.inl s0) (z_st m g)) :
    z_T 194 20 [.inr (.inr 131), .inl a1, .inl a2, .inl a3] [.inl s0] (z_st m g) Q := y_wp_T (cd := q_c194) (cs := [3, 17, 20, 23, 26, 28, 32, 35]) (ng := []) (sy := []) rfl 300 20 _ _ _ _ h
theorem y_194_23 {m : z_M} {g : z_g} {Q : q_V → q_S → Prop} {a1 a2 a3 s0 : Int} (h :
    Q (.inl s0) (z_st m g)) :
    z_T 194 23 [.inr (.inr 131), .inl a1, .inl a2, .inl a3] [.inl s0] (z_st m g) Q := y_wp_T (cd := q_c194) (cs := [3, 17, 20, 23, 26, 28, 32, 35]) (ng := []) (sy := []) rfl 300 23 _ _ _ _ h
theorem y_194_26 {m : z_M} {g : z_g} {Q : q_V → q_S → Prop} {a1 a2 a3 s0 : Int} (h :
    z_C 200 [.inl a3] (z_st m g) (fun v S => z_T 194 28 [.inr (.inr 131), .inl a1, .inl a2, .inl a3] (q_push v [.inl s0]) S Q)) :
    z_T 194 26 [.inr (.inr 131), .inl a1, .inl a2, .inl a3] [.inl s0] (z_st m g) Q := y_wp_T (cd := q_c194) (cs := [3, 17, 20, 23, 26, 28, 32, 35]) (ng := []) (sy := []) rfl 300 26 _ _ _ _ h
theorem y_194_28 {m : z_M} {g : z_g} {Q : q_V → q_S → Prop} {a1 a2 a3 s0 s1 : Int} (h :
    z_dv s1 s0 ∧
    Q (.inl (s1 / s0)) (z_st m g)) :
    z_T 194 28 [.inr (.inr 131), .inl a1, .inl a2, .inl a3] [.inl s0, .inl s1] (z_st m g) Q := y_wp_T (cd := q_c194) (cs := [3, 17, 20, 23, 26, 28, 32, 35]) (ng := []) (sy := []) rfl 300 28 _ _ _ _ h
theorem y_194_32 {m : z_M} {g : z_g} {Q : q_V → q_S → Prop} {a1 a2 a3 s0 : Int} (h :
    Q (.inl s0) (z_st m g)) :
    z_T 194 32 [.inr (.inr 131), .inl a1, .inl a2, .inl a3] [.inl s0] (z_st m g) Q := y_wp_T (cd := q_c194) (cs := [3, 17, 20, 23, 26, 28, 32, 35]) (ng := []) (sy := []) rfl 300 32 _ _ _ _ h
theorem y_194_35 {m : z_M} {g : z_g} {Q : q_V → q_S → Prop} {a1 a2 a3 s0 : Int} (h :
    Q (.inl (s0 - (2 : Int))) (z_st m g)) :
    z_T 194 35 [.inr (.inr 131), .inl a1, .inl a2, .inl a3] [.inl s0] (z_st m g) Q := y_wp_T (cd := q_c194) (cs := [3, 17, 20, 23, 26, 28, 32, 35]) (ng := []) (sy := []) rfl 300 35 _ _ _ _ h
theorem y_195P : q_P 195 = (q_c195, 2) := rfl
theorem y_195 {m : z_M} {g : z_g} {Q : q_V → q_S → Prop} {a1 : Int} (h :
    z_C 188 [.inl a1, .inl (0 : Int), .inl ((m 131 3) - (1 : Int))] (z_st m g) (fun v S => z_T 195 7 [.inr (.inr 131), .inl a1] (q_push v []) S Q)) :
    z_C 195 [.inr (.inr 131), .inl a1] (z_st m g) Q := y_C_wp (cs := [7]) (ng := []) (sy := []) (n := 300) y_195P h
theorem y_195_7 {m : z_M} {g : z_g} {Q : q_V → q_S → Prop} {a1 s0 : Int} (h :
    (s0 = 0 ∨ s0 = 1) ∧ Q (.inl s0) (z_st m g)) :
    z_T 195 7 [.inr (.inr 131), .inl a1] [.inl s0] (z_st m g) Q := y_wp_T (cd := q_c195) (cs := [7]) (ng := [7]) (sy := []) rfl 300 7 _ _ _ _ h
theorem y_196P : q_P 196 = (q_c196, 1) := rfl
theorem y_196 {m : z_M} {g : z_g} {Q : q_V → q_S → Prop} {a0 : Int} (h :
    z_C 197 [.inl a0] (z_st m g) (fun v S => z_T 196 2 [.inl a0] (q_push v []) S Q)) :
    z_C 196 [.inl a0] (z_st m g) Q := y_C_wp (cs := [2, 4]) (ng := []) (sy := []) (n := 300) y_196P h
theorem y_196_2 {m : z_M} {g : z_g} {Q : q_V → q_S → Prop} {a0 s0 : Int} (h :
    z_C 199 [.inl a0] (z_st m g) (fun v S => z_T 196 4 [.inl a0] (q_push v [.inl s0]) S Q)) :
    z_T 196 2 [.inl a0] [.inl s0] (z_st m g) Q := y_wp_T (cd := q_c196) (cs := [2, 4]) (ng := []) (sy := []) rfl 300 2 _ _ _ _ h
theorem y_196_4 {m : z_M} {g : z_g} {Q : q_V → q_S → Prop} {a0 s0 s1 : Int} (h :
    Q (.inl (s1 - s0)) (z_st m g)) :
    z_T 196 4 [.inl a0] [.inl s0, .inl s1] (z_st m g) Q := y_wp_T (cd := q_c196) (cs := [2, 4]) (ng := []) (sy := []) rfl 300 4 _ _ _ _ h
theorem y_197P : q_P 197 = (q_c197, 1) := rfl
theorem y_197 {m : z_M} {g : z_g} {Q : q_V → q_S → Prop} {a0 : Int} (h :
    z_C 192 [.inl a0] (z_st m g) (fun v S => z_T 197 3 [.inl a0] (q_push v [.inl a0]) S Q)) :
    z_C 197 [.inl a0] (z_st m g) Q := y_C_wp (cs := [3, 6]) (ng := []) (sy := []) (n := 300) y_197P h
theorem y_197_3 {m : z_M} {g : z_g} {Q : q_V → q_S → Prop} {a0 s0 s1 : Int} (h :
    z_C 198 [.inl s1, .inl (s0 - (1 : Int))] (z_st m g) (fun v S => z_T 197 6 [.inl a0] (q_push v []) S Q)) :
    z_T 197 3 [.inl a0] [.inl s0, .inl s1] (z_st m g) Q := y_wp_T (cd := q_c197) (cs := [3, 6]) (ng := []) (sy := []) rfl 300 3 _ _ _ _ h
theorem y_197_6 {m : z_M} {g : z_g} {Q : q_V → q_S → Prop} {a0 s0 : Int} (h :
    Q (.inl s0) (z_st m g)) :
    z_T 197 6 [.inl a0] [.inl s0] (z_st m g) Q := y_wp_T (cd := q_c197) (cs := [3, 6]) (ng := []) (sy := []) rfl 300 6 _ _ _ _ h
theorem y_198P : q_P 198 = (q_c198, 4) := rfl
theorem y_198 {m : z_M} {g : z_g} {Q : q_V → q_S → Prop} {a0 a1 : Int} (h :
    z_T 198 4 [.inl a0, .inl a1, .inl (0 : Int), .inl a1] [] (z_st m g) Q) :
    z_C 198 [.inl a0, .inl a1] (z_st m g) Q := y_C_wp (cs := [4]) (ng := []) (sy := []) (n := 300) y_198P h
theorem y_198_4 {m : z_M} {g : z_g} {Q : q_V → q_S → Prop} {a0 a1 a2 a3 : Int} (h :
    z_ok a3 ∧
    ((0 : Int) < a3 →
      z_T 198 4 [.inl a0, .inl a1, .inl (a2 + (1 : Int)), .inl (a3 - (q_bin 3 (q_bin 7 a0 a2) (1 : Int)))] [] (z_st m g) Q) ∧
    (a3 ≤ (0 : Int) →
      z_ok (q_bin 3 (q_bin 7 a0 a2) (1 : Int)) ∧
      (¬ (q_bin 3 (q_bin 7 a0 a2) (1 : Int)) = (0 : Int) →
        Q (.inl a2) (z_st m g)) ∧
      ((q_bin 3 (q_bin 7 a0 a2) (1 : Int)) = (0 : Int) →
        z_T 198 4 [.inl a0, .inl a1, .inl (a2 + (1 : Int)), .inl (a3 - (q_bin 3 (q_bin 7 a0 a2) (1 : Int)))] [] (z_st m g) Q))) :
    z_T 198 4 [.inl a0, .inl a1, .inl a2, .inl a3] [] (z_st m g) Q := y_wp_T (cd := q_c198) (cs := [4]) (ng := []) (sy := []) rfl 300 4 _ _ _ _ h
theorem y_199P : q_P 199 = (q_c199, 1) := rfl
theorem y_199 {m : z_M} {g : z_g} {Q : q_V → q_S → Prop} {a0 : Int} (h :
    z_C 198 [.inl a0, .inl (0 : Int)] (z_st m g) (fun v S => z_T 199 3 [.inl a0] (q_push v []) S Q)) :
    z_C 199 [.inl a0] (z_st m g) Q := y_C_wp (cs := [3]) (ng := []) (sy := []) (n := 300) y_199P h
theorem y_199_3 {m : z_M} {g : z_g} {Q : q_V → q_S → Prop} {a0 s0 : Int} (h :
    Q (.inl s0) (z_st m g)) :
    z_T 199 3 [.inl a0] [.inl s0] (z_st m g) Q := y_wp_T (cd := q_c199) (cs := [3]) (ng := []) (sy := []) rfl 300 3 _ _ _ _ h
theorem y_200P : q_P 200 = (q_c200, 3) := rfl
theorem y_200 {m : z_M} {g : z_g} {Q : q_V → q_S → Prop} {a0 : Int} (h :
    z_T 200 4 [.inl a0, .inl (0 : Int), .inl (1 : Int)] [] (z_st m g) Q) :
    z_C 200 [.inl a0] (z_st m g) Q := y_C_wp (cs := [4, 7, 12, 14, 16]) (ng := []) (sy := []) (n := 300) y_200P h
theorem y_200_4 {m : z_M} {g : z_g} {Q : q_V → q_S → Prop} {a0 a1 a2 : Int} (h :
    z_C 192 [.inl a0] (z_st m g) (fun v S => z_T 200 7 [.inl a0, .inl a1, .inl a2] (q_push v [.inl a2]) S Q)) :
    z_T 200 4 [.inl a0, .inl a1, .inl a2] [] (z_st m g) Q := y_wp_T (cd := q_c200) (cs := [4, 7, 12, 14, 16]) (ng := []) (sy := []) rfl 300 4 _ _ _ _ h
theorem y_200_7 {m : z_M} {g : z_g} {Q : q_V → q_S → Prop} {a0 a1 a2 s0 s1 : Int} (h :
    z_ok2 s1 s0 ∧
    (s0 ≤ s1 →
      Q (.inl a1) (z_st m g)) ∧
    (s1 < s0 →
      z_C 198 [.inl a0, .inl a2] (z_st m g) (fun v S => z_T 200 12 [.inl a0, .inl a1, .inl a2] (q_push v [.inl a1]) S Q))) :
    z_T 200 7 [.inl a0, .inl a1, .inl a2] [.inl s0, .inl s1] (z_st m g) Q := y_wp_T (cd := q_c200) (cs := [4, 7, 12, 14, 16]) (ng := []) (sy := []) rfl 300 7 _ _ _ _ h
theorem y_200_12 {m : z_M} {g : z_g} {Q : q_V → q_S → Prop} {a0 a1 a2 s0 s1 : Int} (h :
    z_C 199 [.inl a0] (z_st m g) (fun v S => z_T 200 14 [.inl a0, .inl a1, .inl a2] (q_push v [.inl s0, .inl s1]) S Q)) :
    z_T 200 12 [.inl a0, .inl a1, .inl a2] [.inl s0, .inl s1] (z_st m g) Q := y_wp_T (cd := q_c200) (cs := [4, 7, 12, 14, 16]) (ng := []) (sy := []) rfl 300 12 _ _ _ _ h
theorem y_200_14 {m : z_M} {g : z_g} {Q : q_V → q_S → Prop} {a0 a1 a2 s0 s1 s2 : Int} (h :
    z_C 201 [.inl s2, .inl (s1 - s0)] (z_st m g) (fun v S => z_T 200 16 [.inl a0, .inl a1, .inl a2] (q_push v []) S Q)) :
    z_T 200 14 [.inl a0, .inl a1, .inl a2] [.inl s0, .inl s1, .inl s2] (z_st m g) Q := y_wp_T (cd := q_c200) (cs := [4, 7, 12, 14, 16]) (ng := []) (sy := []) rfl 300 14 _ _ _ _ h
theorem y_200_16 {m : z_M} {g : z_g} {Q : q_V → q_S → Prop} {a0 a1 a2 s0 : Int} (h :
    z_T 200 4 [.inl a0, .inl s0, .inl (a2 + (1 : Int))] [] (z_st m g) Q) :
    z_T 200 16 [.inl a0, .inl a1, .inl a2] [.inl s0] (z_st m g) Q := y_wp_T (cd := q_c200) (cs := [4, 7, 12, 14, 16]) (ng := []) (sy := []) rfl 300 16 _ _ _ _ h
theorem y_201P : q_P 201 = (q_c201, 5) := rfl
theorem y_201 {m : z_M} {g : z_g} {Q : q_V → q_S → Prop} {a0 a1 : Int} (h :
    z_ok a0 ∧
    ((0 : Int) ≤ a0 →
      z_ok a1 ∧
      ((0 : Int) ≤ a1 →
        z_T 201 14 [.inl a0, .inl a1, .inl a0, .inl a1, q_dead] [] (z_st m g) Q) ∧
      (a1 < (0 : Int) →
        z_T 201 14 [.inl a0, .inl a1, .inl a0, .inl (-a1), q_dead] [] (z_st m g) Q)) ∧
    (a0 < (0 : Int) →
      z_ok a1 ∧
      ((0 : Int) ≤ a1 →
        z_T 201 14 [.inl a0, .inl a1, .inl (-a0), .inl a1, q_dead] [] (z_st m g) Q) ∧
      (a1 < (0 : Int) →
        z_T 201 14 [.inl a0, .inl a1, .inl (-a0), .inl (-a1), q_dead] [] (z_st m g) Q))) :
    z_C 201 [.inl a0, .inl a1] (z_st m g) Q := y_C_wp (cs := [14]) (ng := []) (sy := []) (n := 300) y_201P h
theorem y_201_14 {m : z_M} {g : z_g} {Q : q_V → q_S → Prop} {a0 a1 a2 a3 : Int} {da4 : q_V} (h :
    z_ok a3 ∧
    (a3 = (0 : Int) →
      Q (.inl a2) (z_st m g)) ∧
    (¬ a3 = (0 : Int) →
      z_dv a2 a3 ∧
      z_T 201 14 [.inl a0, .inl a1, .inl a3, .inl (a2 % a3), .inl (a2 % a3)] [] (z_st m g) Q)) :
    z_T 201 14 [.inl a0, .inl a1, .inl a2, .inl a3, da4] [] (z_st m g) Q := y_wp_T (cd := q_c201) (cs := [14]) (ng := []) (sy := []) rfl 300 14 _ _ _ _ h
theorem y_202P : q_P 202 = (q_c202, 2) := rfl
theorem y_202 {m : z_M} {g : z_g} {Q : q_V → q_S → Prop} {a0 : Int} (h :
    z_C 192 [.inl a0] (z_st m g) (fun v S => z_T 202 2 [.inl a0, q_dead] (q_push v []) S Q)) :
    z_C 202 [.inl a0] (z_st m g) Q := y_C_wp (cs := [2, 6, 10, 12, 16, 21, 25]) (ng := []) (sy := []) (n := 300) y_202P h
theorem y_202_2 {m : z_M} {g : z_g} {Q : q_V → q_S → Prop} {a0 s0 : Int} (h :
    z_C 196 [.inl a0] (z_st m g) (fun v S => z_T 202 6 [.inl a0, .inl s0] (q_push v [.inl (2 : Int)]) S Q)) :
    z_T 202 2 [.inl a0, q_dead] [.inl s0] (z_st m g) Q := y_wp_T (cd := q_c202) (cs := [2, 6, 10, 12, 16, 21, 25]) (ng := []) (sy := []) rfl 300 2 _ _ _ _ h
theorem y_202_6 {m : z_M} {g : z_g} {Q : q_V → q_S → Prop} {a0 a1 s0 s1 : Int} (h :
    z_C 198 [.inl a0, .inl (1 : Int)] (z_st m g) (fun v S => z_T 202 10 [.inl a0, .inl a1] (q_push v [.inl (s1 * s0)]) S Q)) :
    z_T 202 6 [.inl a0, .inl a1] [.inl s0, .inl s1] (z_st m g) Q := y_wp_T (cd := q_c202) (cs := [2, 6, 10, 12, 16, 21, 25]) (ng := []) (sy := []) rfl 300 6 _ _ _ _ h
theorem y_202_10 {m : z_M} {g : z_g} {Q : q_V → q_S → Prop} {a0 a1 s0 s1 : Int} (h :
    z_C 199 [.inl a0] (z_st m g) (fun v S => z_T 202 12 [.inl a0, .inl a1] (q_push v [.inl s0, .inl s1]) S Q)) :
    z_T 202 10 [.inl a0, .inl a1] [.inl s0, .inl s1] (z_st m g) Q := y_wp_T (cd := q_c202) (cs := [2, 6, 10, 12, 16, 21, 25]) (ng := []) (sy := []) rfl 300 10 _ _ _ _ h
theorem y_202_12 {m : z_M} {g : z_g} {Q : q_V → q_S → Prop} {a0 a1 s0 s1 s2 : Int} (h :
    z_C 197 [.inl a0] (z_st m g) (fun v S => z_T 202 16 [.inl a0, .inl a1] (q_push v [.inl (s2 - (s1 - s0))]) S Q)) :
    z_T 202 12 [.inl a0, .inl a1] [.inl s0, .inl s1, .inl s2] (z_st m g) Q := y_wp_T (cd := q_c202) (cs := [2, 6, 10, 12, 16, 21, 25]) (ng := []) (sy := []) rfl 300 12 _ _ _ _ h
theorem y_202_16 {m : z_M} {g : z_g} {Q : q_V → q_S → Prop} {a0 a1 s0 s1 : Int} (h :
    z_C 198 [.inl a0, .inl (a1 - (2 : Int))] (z_st m g) (fun v S => z_T 202 21 [.inl a0, .inl a1] (q_push v [.inl s0, .inl s1]) S Q)) :
    z_T 202 16 [.inl a0, .inl a1] [.inl s0, .inl s1] (z_st m g) Q := y_wp_T (cd := q_c202) (cs := [2, 6, 10, 12, 16, 21, 25]) (ng := []) (sy := []) rfl 300 16 _ _ _ _ h
theorem y_202_21 {m : z_M} {g : z_g} {Q : q_V → q_S → Prop} {a0 a1 s0 s1 s2 : Int} (h :
    z_C 200 [.inl a0] (z_st m g) (fun v S => z_T 202 25 [.inl a0, .inl a1] (q_push v [.inl (s2 - (s1 - s0))]) S Q)) :
    z_T 202 21 [.inl a0, .inl a1] [.inl s0, .inl s1, .inl s2] (z_st m g) Q := y_wp_T (cd := q_c202) (cs := [2, 6, 10, 12, 16, 21, 25]) (ng := []) (sy := []) rfl 300 21 _ _ _ _ h
theorem y_202_25 {m : z_M} {g : z_g} {Q : q_V → q_S → Prop} {a0 a1 s0 s1 : Int} (h :
    z_dv s1 s0 ∧
    Q (.inl (s1 / s0)) (z_st m g)) :
    z_T 202 25 [.inl a0, .inl a1] [.inl s0, .inl s1] (z_st m g) Q := y_wp_T (cd := q_c202) (cs := [2, 6, 10, 12, 16, 21, 25]) (ng := []) (sy := []) rfl 300 25 _ _ _ _ h
theorem y_203P : q_P 203 = (q_c203, 4) := rfl
theorem y_203 {m : z_M} {g : z_g} {Q : q_V → q_S → Prop} {a1 a2 a3 : Int} (h :
    z_C 195 [.inr (.inr 131), .inl a1] (z_st m g) (fun v S => z_T 203 3 [.inr (.inr 131), .inl a1, .inl a2, .inl a3] (q_push v []) S Q)) :
    z_C 203 [.inr (.inr 131), .inl a1, .inl a2, .inl a3] (z_st m g) Q := y_C_wp (cs := [3, 11, 14, 21, 32]) (ng := []) (sy := []) (n := 300) y_203P h
theorem y_203_3 {m : z_M} {g : z_g} {Q : q_V → q_S → Prop} {a1 a2 a3 s0 : Int} (h :
    z_ok s0 ∧
    (s0 = (0 : Int) →
      Q (.inl (-1 : Int)) (z_st m g)) ∧
    (¬ s0 = (0 : Int) →
      z_in a1 6 ∧
      z_C 192 [.inl (m 133 ((a1).toNat))] (z_st m g) (fun v S => z_T 203 11 [.inr (.inr 131), .inl a1, .inl a2, .inl a3] (q_push v [.inl (0 : Int), .inl a2]) S Q))) :
    z_T 203 3 [.inr (.inr 131), .inl a1, .inl a2, .inl a3] [.inl s0] (z_st m g) Q := y_wp_T (cd := q_c203) (cs := [3, 11, 14, 21, 32]) (ng := []) (sy := []) rfl 300 3 _ _ _ _ h
theorem y_203_11 {m : z_M} {g : z_g} {Q : q_V → q_S → Prop} {a1 a2 a3 s0 s1 s2 : Int} (h :
    z_C 188 [.inl s2, .inl s1, .inl (s0 - (3 : Int))] (z_st m g) (fun v S => z_T 203 14 [.inr (.inr 131), .inl a1, .inl a2, .inl a3] (q_push v []) S Q)) :
    z_T 203 11 [.inr (.inr 131), .inl a1, .inl a2, .inl a3] [.inl s0, .inl s1, .inl s2] (z_st m g) Q := y_wp_T (cd := q_c203) (cs := [3, 11, 14, 21, 32]) (ng := []) (sy := []) rfl 300 11 _ _ _ _ h
theorem y_203_14 {m : z_M} {g : z_g} {Q : q_V → q_S → Prop} {a1 a2 a3 s0 : Int} (h :
    z_ok s0 ∧
    (s0 = (0 : Int) →
      Q (.inl (-1 : Int)) (z_st m g)) ∧
    (¬ s0 = (0 : Int) →
      z_in a1 6 ∧
      z_C 204 [.inl (m 133 ((a1).toNat)), .inl a3] (z_st m g) (fun v S => z_T 203 21 [.inr (.inr 131), .inl a1, .inl a2, .inl a3] (q_push v []) S Q))) :
    z_T 203 14 [.inr (.inr 131), .inl a1, .inl a2, .inl a3] [.inl s0] (z_st m g) Q := y_wp_T (cd := q_c203) (cs := [3, 11, 14, 21, 32]) (ng := []) (sy := []) rfl 300 14 _ _ _ _ h
theorem y_203_21 {m : z_M} {g : z_g} {Q : q_V → q_S → Prop} {a1 a2 a3 s0 : Int} (h :
    z_ok s0 ∧
    (¬ s0 = (0 : Int) →
      z_in a1 6 ∧
      z_C 205 [.inl (m 133 ((a1).toNat)), .inl a2, .inl a3] (z_st m g) (fun v S => z_T 203 32 [.inr (.inr 131), .inl a1, .inl a2, .inl a3] (q_push v [.inl (100 : Int)]) S Q)) ∧
    (s0 = (0 : Int) →
      Q (.inl (-1 : Int)) (z_st m g))) :
    z_T 203 21 [.inr (.inr 131), .inl a1, .inl a2, .inl a3] [.inl s0] (z_st m g) Q := y_wp_T (cd := q_c203) (cs := [3, 11, 14, 21, 32]) (ng := []) (sy := []) rfl 300 21 _ _ _ _ h
theorem y_203_32 {m : z_M} {g : z_g} {Q : q_V → q_S → Prop} {a1 a2 a3 s0 s1 : Int} (h :
    Q (.inl (s1 + s0)) (z_st m g)) :
    z_T 203 32 [.inr (.inr 131), .inl a1, .inl a2, .inl a3] [.inl s0, .inl s1] (z_st m g) Q := y_wp_T (cd := q_c203) (cs := [3, 11, 14, 21, 32]) (ng := []) (sy := []) rfl 300 32 _ _ _ _ h
theorem y_204P : q_P 204 = (q_c204, 2) := rfl
theorem y_204 {m : z_M} {g : z_g} {Q : q_V → q_S → Prop} {a0 a1 : Int} (h :
    z_C 188 [.inl a1, .inl (0 : Int), .inl (12 : Int)] (z_st m g) (fun v S => z_T 204 4 [.inl a0, .inl a1] (q_push v []) S Q)) :
    z_C 204 [.inl a0, .inl a1] (z_st m g) Q := y_C_wp (cs := [4]) (ng := []) (sy := []) (n := 300) y_204P h
theorem y_204_4 {m : z_M} {g : z_g} {Q : q_V → q_S → Prop} {a0 a1 s0 : Int} (h :
    z_ok s0 ∧
    (s0 = (0 : Int) →
      Q (.inl (0 : Int)) (z_st m g)) ∧
    (¬ s0 = (0 : Int) →
      z_ok2 (q_bin 3 (q_bin 7 a0 a1) (1 : Int)) (1 : Int) ∧
      (¬ (q_bin 3 (q_bin 7 a0 a1) (1 : Int)) = (1 : Int) →
        Q (.inl (0 : Int)) (z_st m g)) ∧
      ((q_bin 3 (q_bin 7 a0 a1) (1 : Int)) = (1 : Int) →
        Q (.inl (1 : Int)) (z_st m g)))) :
    z_T 204 4 [.inl a0, .inl a1] [.inl s0] (z_st m g) Q := y_wp_T (cd := q_c204) (cs := [4]) (ng := []) (sy := []) rfl 300 4 _ _ _ _ h
theorem y_205P : q_P 205 = (q_c205, 7) := rfl
theorem y_205 {m : z_M} {g : z_g} {Q : q_V → q_S → Prop} {a0 a1 a2 : Int} (h :
    z_C 198 [.inl a0, .inl a1] (z_st m g) (fun v S => z_T 205 3 [.inl a0, .inl a1, .inl a2, q_dead, q_dead, q_dead, q_dead] (q_push v []) S Q)) :
    z_C 205 [.inl a0, .inl a1, .inl a2] (z_st m g) Q := y_C_wp (cs := [3, 9, 15, 23, 27]) (ng := []) (sy := []) (n := 300) y_205P h
theorem y_205_3 {m : z_M} {g : z_g} {Q : q_V → q_S → Prop} {a0 a1 a2 s0 : Int} (h :
    z_C 198 [.inl a0, .inl (a1 + (1 : Int))] (z_st m g) (fun v S => z_T 205 9 [.inl a0, .inl a1, .inl a2, .inl s0, q_dead, q_dead, q_dead] (q_push v []) S Q)) :
    z_T 205 3 [.inl a0, .inl a1, .inl a2, q_dead, q_dead, q_dead, q_dead] [.inl s0] (z_st m g) Q := y_wp_T (cd := q_c205) (cs := [3, 9, 15, 23, 27]) (ng := []) (sy := []) rfl 300 3 _ _ _ _ h
theorem y_205_9 {m : z_M} {g : z_g} {Q : q_V → q_S → Prop} {a0 a1 a2 a3 s0 : Int} (h :
    z_C 198 [.inl a0, .inl (a1 + (2 : Int))] (z_st m g) (fun v S => z_T 205 15 [.inl a0, .inl a1, .inl a2, .inl a3, .inl s0, q_dead, q_dead] (q_push v []) S Q)) :
    z_T 205 9 [.inl a0, .inl a1, .inl a2, .inl a3, q_dead, q_dead, q_dead] [.inl s0] (z_st m g) Q := y_wp_T (cd := q_c205) (cs := [3, 9, 15, 23, 27]) (ng := []) (sy := []) rfl 300 9 _ _ _ _ h
theorem y_205_15 {m : z_M} {g : z_g} {Q : q_V → q_S → Prop} {a0 a1 a2 a3 a4 s0 : Int} (h :
    z_C 201 [.inl (s0 - a4), .inl (a3 - s0)] (z_st m g) (fun v S => z_T 205 23 [.inl a0, .inl a1, .inl a2, .inl a3, .inl a4, .inl s0, q_dead] (q_push v []) S Q)) :
    z_T 205 15 [.inl a0, .inl a1, .inl a2, .inl a3, .inl a4, q_dead, q_dead] [.inl s0] (z_st m g) Q := y_wp_T (cd := q_c205) (cs := [3, 9, 15, 23, 27]) (ng := []) (sy := []) rfl 300 15 _ _ _ _ h
theorem y_205_23 {m : z_M} {g : z_g} {Q : q_V → q_S → Prop} {a0 a1 a2 a3 a4 a5 s0 : Int} (h :
    z_C 201 [.inl s0, .inl (a4 - a3)] (z_st m g) (fun v S => z_T 205 27 [.inl a0, .inl a1, .inl a2, .inl a3, .inl a4, .inl a5, q_dead] (q_push v []) S Q)) :
    z_T 205 23 [.inl a0, .inl a1, .inl a2, .inl a3, .inl a4, .inl a5, q_dead] [.inl s0] (z_st m g) Q := y_wp_T (cd := q_c205) (cs := [3, 9, 15, 23, 27]) (ng := []) (sy := []) rfl 300 23 _ _ _ _ h
theorem y_205_27 {m : z_M} {g : z_g} {Q : q_V → q_S → Prop} {a0 a1 a2 a3 a4 a5 s0 : Int} (h :
    z_ok2 a2 a3 ∧
    (¬ a2 = a3 →
      z_ok2 a2 a4 ∧
      (¬ a2 = a4 →
        z_ok2 a2 a5 ∧
        (¬ a2 = a5 →
          z_dw (0 : Int) s0 ∧
          Q (.inl (((0 : Int)).tdiv s0)) (z_st m g)) ∧
        (a2 = a5 →
          z_dw (a4 - a3) s0 ∧
          Q (.inl ((a4 - a3).tdiv s0)) (z_st m g))) ∧
      (a2 = a4 →
        z_dw (a3 - a5) s0 ∧
        Q (.inl ((a3 - a5).tdiv s0)) (z_st m g))) ∧
    (a2 = a3 →
      z_dw (a5 - a4) s0 ∧
      Q (.inl ((a5 - a4).tdiv s0)) (z_st m g))) :
    z_T 205 27 [.inl a0, .inl a1, .inl a2, .inl a3, .inl a4, .inl a5, q_dead] [.inl s0] (z_st m g) Q := y_wp_T (cd := q_c205) (cs := [3, 9, 15, 23, 27]) (ng := [51]) (sy := []) rfl 300 27 _ _ _ _ h
theorem y_206P : q_P 206 = (q_c206, 4) := rfl
theorem y_206 {m : z_M} {g : z_g} {Q : q_V → q_S → Prop} {a1 a2 a3 : Int} (h :
    z_C 195 [.inr (.inr 131), .inl a1] (z_st m g) (fun v S => z_T 206 3 [.inr (.inr 131), .inl a1, .inl a2, .inl a3] (q_push v []) S Q)) :
    z_C 206 [.inr (.inr 131), .inl a1, .inl a2, .inl a3] (z_st m g) Q := y_C_wp (cs := [3, 8, 15, 32]) (ng := []) (sy := []) (n := 300) y_206P h
theorem y_206_3 {m : z_M} {g : z_g} {Q : q_V → q_S → Prop} {a1 a2 a3 s0 : Int} (h :
    z_ok s0 ∧
    (s0 = (0 : Int) →
      Q (.inl (-1 : Int)) (z_st m g)) ∧
    (¬ s0 = (0 : Int) →
      z_C 188 [.inl a2, .inl (0 : Int), .inl (5 : Int)] (z_st m g) (fun v S => z_T 206 8 [.inr (.inr 131), .inl a1, .inl a2, .inl a3] (q_push v []) S Q))) :
    z_T 206 3 [.inr (.inr 131), .inl a1, .inl a2, .inl a3] [.inl s0] (z_st m g) Q := y_wp_T (cd := q_c206) (cs := [3, 8, 15, 32]) (ng := []) (sy := []) rfl 300 3 _ _ _ _ h
theorem y_206_8 {m : z_M} {g : z_g} {Q : q_V → q_S → Prop} {a1 a2 a3 s0 : Int} (h :
    z_ok s0 ∧
    (¬ s0 = (0 : Int) →
      z_C 188 [.inl a3, .inl (0 : Int), .inl (9 : Int)] (z_st m g) (fun v S => z_T 206 15 [.inr (.inr 131), .inl a1, .inl a2, .inl a3] (q_push v []) S Q)) ∧
    (s0 = (0 : Int) →
      Q (.inl (-1 : Int)) (z_st m g))) :
    z_T 206 8 [.inr (.inr 131), .inl a1, .inl a2, .inl a3] [.inl s0] (z_st m g) Q := y_wp_T (cd := q_c206) (cs := [3, 8, 15, 32]) (ng := []) (sy := []) rfl 300 8 _ _ _ _ h
theorem y_206_15 {m : z_M} {g : z_g} {Q : q_V → q_S → Prop} {a1 a2 a3 s0 : Int} (h :
    z_ok s0 ∧
    (¬ s0 = (0 : Int) →
      z_ok2 (m 131 8) (6 : Int) ∧
      (¬ (m 131 8) = (6 : Int) →
        z_C 207 [.inr (.inr 131), .inl a1, .inl a2, .inl a3] (z_st (q_upd m 131 41 (0 : Int)) g) (fun v S => z_T 206 32 [.inr (.inr 131), .inl a1, .inl a2, .inl a3] (q_push v []) S Q)) ∧
      ((m 131 8) = (6 : Int) →
        Q (.inl (-4 : Int)) (z_st m g))) ∧
    (s0 = (0 : Int) →
      Q (.inl (-2 : Int)) (z_st m g))) :
    z_T 206 15 [.inr (.inr 131), .inl a1, .inl a2, .inl a3] [.inl s0] (z_st m g) Q := y_wp_T (cd := q_c206) (cs := [3, 8, 15, 32]) (ng := []) (sy := []) rfl 300 15 _ _ _ _ h
theorem y_206_32 {m : z_M} {g : z_g} {Q : q_V → q_S → Prop} {a1 a2 a3 s0 : Int} (h :
    Q (.inl s0) (z_st m g)) :
    z_T 206 32 [.inr (.inr 131), .inl a1, .inl a2, .inl a3] [.inl s0] (z_st m g) Q := y_wp_T (cd := q_c206) (cs := [3, 8, 15, 32]) (ng := []) (sy := []) rfl 300 32 _ _ _ _ h
theorem y_207P : q_P 207 = (q_c207, 5) := rfl
theorem y_207 {m : z_M} {g : z_g} {Q : q_V → q_S → Prop} {a1 a2 a3 : Int} (h :
    z_in (m 131 8) 6 ∧
    z_in (m 131 8) 6 ∧
    z_in (m 131 8) 6 ∧
    z_T 207 20 [.inr (.inr 131), .inl a1, .inl a2, .inl a3, .inl (0 : Int)] [] (z_st (q_upd (q_upd (q_upd m 134 ((m 131 8).toNat) a1) 135 ((m 131 8).toNat) a2) 136 ((m 131 8).toNat) a3) g) Q) :
    z_C 207 [.inr (.inr 131), .inl a1, .inl a2, .inl a3] (z_st m g) Q := y_C_wp (cs := [20]) (ng := []) (sy := []) (n := 300) y_207P h
theorem y_207_20 {m : z_M} {g : z_g} {Q : q_V → q_S → Prop} {a1 a2 a3 a4 : Int} (h :
    z_ok2 a4 (13 : Int) ∧
    ((13 : Int) ≤ a4 →
      Q (.inl (((m 131 8) + (1 : Int)) - (1 : Int))) (z_st (q_upd m 131 8 ((m 131 8) + (1 : Int))) g)) ∧
    (a4 < (13 : Int) →
      z_in (((13 : Int) * (m 131 8)) + a4) 78 ∧
      z_T 207 20 [.inr (.inr 131), .inl a1, .inl a2, .inl a3, .inl (a4 + (1 : Int))] [] (z_st (q_upd m 137 ((((13 : Int) * (m 131 8)) + a4).toNat) (0 : Int)) g) Q)) :
    z_T 207 20 [.inr (.inr 131), .inl a1, .inl a2, .inl a3, .inl a4] [] (z_st m g) Q := y_wp_T (cd := q_c207) (cs := [20]) (ng := []) (sy := []) rfl 300 20 _ _ _ _ h
theorem y_208P : q_P 208 = (q_c208, 5) := rfl
theorem y_208 {m : z_M} {g : z_g} {Q : q_V → q_S → Prop} {a1 a2 a3 : Int} (h :
    z_C 209 [.inr (.inr 131), .inl a1] (z_st m g) (fun v S => z_T 208 3 [.inr (.inr 131), .inl a1, .inl a2, .inl a3, q_dead] (q_push v []) S Q)) :
    z_C 208 [.inr (.inr 131), .inl a1, .inl a2, .inl a3] (z_st m g) Q := y_C_wp (cs := [3, 7, 9, 16, 37]) (ng := []) (sy := []) (n := 300) y_208P h
theorem y_208_3 {m : z_M} {g : z_g} {Q : q_V → q_S → Prop} {a1 a2 a3 s0 : Int} (h :
    z_ok s0 ∧
    (s0 = (0 : Int) →
      Q (.inl (-1 : Int)) (z_st m g)) ∧
    (¬ s0 = (0 : Int) →
      z_C 210 [.inr (.inr 131), .inl a1] (z_st m g) (fun v S => z_T 208 7 [.inr (.inr 131), .inl a1, .inl a2, .inl a3, q_dead] (q_push v []) S Q))) :
    z_T 208 3 [.inr (.inr 131), .inl a1, .inl a2, .inl a3, q_dead] [.inl s0] (z_st m g) Q := y_wp_T (cd := q_c208) (cs := [3, 7, 9, 16, 37]) (ng := []) (sy := []) rfl 300 3 _ _ _ _ h
theorem y_208_7 {m : z_M} {g : z_g} {Q : q_V → q_S → Prop} {a1 a2 a3 s0 : Int} (h :
    z_C 204 [.inl s0, .inl a2] (z_st m g) (fun v S => z_T 208 9 [.inr (.inr 131), .inl a1, .inl a2, .inl a3, q_dead] (q_push v []) S Q)) :
    z_T 208 7 [.inr (.inr 131), .inl a1, .inl a2, .inl a3, q_dead] [.inl s0] (z_st m g) Q := y_wp_T (cd := q_c208) (cs := [3, 7, 9, 16, 37]) (ng := []) (sy := []) rfl 300 7 _ _ _ _ h
theorem y_208_9 {m : z_M} {g : z_g} {Q : q_V → q_S → Prop} {a1 a2 a3 s0 : Int} (h :
    z_ok s0 ∧
    (¬ s0 = (0 : Int) →
      z_C 188 [.inl a3, .inl (0 : Int), .inl (99 : Int)] (z_st m g) (fun v S => z_T 208 16 [.inr (.inr 131), .inl a1, .inl a2, .inl a3, q_dead] (q_push v []) S Q)) ∧
    (s0 = (0 : Int) →
      Q (.inl (-1 : Int)) (z_st m g))) :
    z_T 208 9 [.inr (.inr 131), .inl a1, .inl a2, .inl a3, q_dead] [.inl s0] (z_st m g) Q := y_wp_T (cd := q_c208) (cs := [3, 7, 9, 16, 37]) (ng := []) (sy := []) rfl 300 9 _ _ _ _ h
theorem y_208_16 {m : z_M} {g : z_g} {Q : q_V → q_S → Prop} {a1 a2 a3 s0 : Int} (h :
    z_ok s0 ∧
    (¬ s0 = (0 : Int) →
      z_in (((13 : Int) * a1) + a2) 78 ∧
      z_C 189 [.inr (.inr 131), .inl (((13 : Int) * a1) + a2), .inl (0 : Int), .inl (m 137 ((((13 : Int) * a1) + a2).toNat))] (z_st m g) (fun v S => z_T 208 37 [.inr (.inr 131), .inl a1, .inl a2, .inl a3, .inl (m 137 ((((13 : Int) * a1) + a2).toNat))] (q_push v []) S Q)) ∧
    (s0 = (0 : Int) →
      Q (.inl (-2 : Int)) (z_st m g))) :
    z_T 208 16 [.inr (.inr 131), .inl a1, .inl a2, .inl a3, q_dead] [.inl s0] (z_st m g) Q := y_wp_T (cd := q_c208) (cs := [3, 7, 9, 16, 37]) (ng := []) (sy := []) rfl 300 16 _ _ _ _ h
theorem y_208_37 {m : z_M} {g : z_g} {Q : q_V → q_S → Prop} {a1 a2 a3 a4 : Int} (h :
    z_in (((13 : Int) * a1) + a2) 78 ∧
    Q (.inl a4) (z_st (q_upd m 137 ((((13 : Int) * a1) + a2).toNat) a3) g)) :
    z_T 208 37 [.inr (.inr 131), .inl a1, .inl a2, .inl a3, .inl a4] [] (z_st m g) Q := y_wp_T (cd := q_c208) (cs := [3, 7, 9, 16, 37]) (ng := []) (sy := []) rfl 300 37 _ _ _ _ h
theorem y_209P : q_P 209 = (q_c209, 2) := rfl
theorem y_209 {m : z_M} {g : z_g} {Q : q_V → q_S → Prop} {a1 : Int} (h :
    z_C 188 [.inl a1, .inl (0 : Int), .inl ((m 131 8) - (1 : Int))] (z_st m g) (fun v S => z_T 209 7 [.inr (.inr 131), .inl a1] (q_push v []) S Q)) :
    z_C 209 [.inr (.inr 131), .inl a1] (z_st m g) Q := y_C_wp (cs := [7]) (ng := []) (sy := []) (n := 300) y_209P h
theorem y_209_7 {m : z_M} {g : z_g} {Q : q_V → q_S → Prop} {a1 s0 : Int} (h :
    (s0 = 0 ∨ s0 = 1) ∧ Q (.inl s0) (z_st m g)) :
    z_T 209 7 [.inr (.inr 131), .inl a1] [.inl s0] (z_st m g) Q := y_wp_T (cd := q_c209) (cs := [7]) (ng := [7]) (sy := []) rfl 300 7 _ _ _ _ h
theorem y_210P : q_P 210 = (q_c210, 2) := rfl
theorem y_210 {m : z_M} {g : z_g} {Q : q_V → q_S → Prop} {a1 : Int} (h :
    z_in a1 6 ∧
    z_in (m 134 ((a1).toNat)) 6 ∧
    Q (.inl (m 133 ((m 134 ((a1).toNat)).toNat))) (z_st m g)) :
    z_C 210 [.inr (.inr 131), .inl a1] (z_st m g) Q := y_C_wp (cs := []) (ng := []) (sy := []) (n := 300) y_210P h
theorem y_211P : q_P 211 = (q_c211, 5) := rfl
theorem y_211 {m : z_M} {g : z_g} {Q : q_V → q_S → Prop} {a1 a2 a3 : Int} (h :
    z_C 209 [.inr (.inr 131), .inl a1] (z_st m g) (fun v S => z_T 211 3 [.inr (.inr 131), .inl a1, .inl a2, .inl a3, q_dead] (q_push v []) S Q)) :
    z_C 211 [.inr (.inr 131), .inl a1, .inl a2, .inl a3] (z_st m g) Q := y_C_wp (cs := [3, 8, 15, 35]) (ng := []) (sy := []) (n := 300) y_211P h
theorem y_211_3 {m : z_M} {g : z_g} {Q : q_V → q_S → Prop} {a1 a2 a3 s0 : Int} (h :
    z_ok s0 ∧
    (s0 = (0 : Int) →
      Q (.inl (-1 : Int)) (z_st m g)) ∧
    (¬ s0 = (0 : Int) →
      z_C 188 [.inl a2, .inl (0 : Int), .inl (5 : Int)] (z_st m g) (fun v S => z_T 211 8 [.inr (.inr 131), .inl a1, .inl a2, .inl a3, q_dead] (q_push v []) S Q))) :
    z_T 211 3 [.inr (.inr 131), .inl a1, .inl a2, .inl a3, q_dead] [.inl s0] (z_st m g) Q := y_wp_T (cd := q_c211) (cs := [3, 8, 15, 35]) (ng := []) (sy := []) rfl 300 3 _ _ _ _ h
theorem y_211_8 {m : z_M} {g : z_g} {Q : q_V → q_S → Prop} {a1 a2 a3 s0 : Int} (h :
    z_ok s0 ∧
    (¬ s0 = (0 : Int) →
      z_C 188 [.inl a3, .inl (0 : Int), .inl (9 : Int)] (z_st m g) (fun v S => z_T 211 15 [.inr (.inr 131), .inl a1, .inl a2, .inl a3, q_dead] (q_push v []) S Q)) ∧
    (s0 = (0 : Int) →
      Q (.inl (-1 : Int)) (z_st m g))) :
    z_T 211 8 [.inr (.inr 131), .inl a1, .inl a2, .inl a3, q_dead] [.inl s0] (z_st m g) Q := y_wp_T (cd := q_c211) (cs := [3, 8, 15, 35]) (ng := []) (sy := []) rfl 300 8 _ _ _ _ h
theorem y_211_15 {m : z_M} {g : z_g} {Q : q_V → q_S → Prop} {a1 a2 a3 s0 : Int} (h :
    z_ok s0 ∧
    (¬ s0 = (0 : Int) →
      z_in a1 6 ∧
      z_in a1 6 ∧
      z_C 189 [.inr (.inr 131), .inl (-2 : Int), .inl a1, .inl (((10 : Int) * (m 135 ((a1).toNat))) + (m 136 ((a1).toNat)))] (z_st m g) (fun v S => z_T 211 35 [.inr (.inr 131), .inl a1, .inl a2, .inl a3, .inl (((10 : Int) * (m 135 ((a1).toNat))) + (m 136 ((a1).toNat)))] (q_push v []) S Q)) ∧
    (s0 = (0 : Int) →
      Q (.inl (-2 : Int)) (z_st m g))) :
    z_T 211 15 [.inr (.inr 131), .inl a1, .inl a2, .inl a3, q_dead] [.inl s0] (z_st m g) Q := y_wp_T (cd := q_c211) (cs := [3, 8, 15, 35]) (ng := []) (sy := []) rfl 300 15 _ _ _ _ h
theorem y_211_35 {m : z_M} {g : z_g} {Q : q_V → q_S → Prop} {a1 a2 a3 a4 : Int} (h :
    z_in a1 6 ∧
    z_in a1 6 ∧
    Q (.inl a4) (z_st (q_upd (q_upd m 135 ((a1).toNat) a2) 136 ((a1).toNat) a3) g)) :
    z_T 211 35 [.inr (.inr 131), .inl a1, .inl a2, .inl a3, .inl a4] [] (z_st m g) Q := y_wp_T (cd := q_c211) (cs := [3, 8, 15, 35]) (ng := []) (sy := []) rfl 300 35 _ _ _ _ h
theorem y_212P : q_P 212 = (q_c212, 3) := rfl
theorem y_212 {m : z_M} {g : z_g} {Q : q_V → q_S → Prop} {a1 a2 : Int} (h :
    z_C 209 [.inr (.inr 131), .inl a1] (z_st m g) (fun v S => z_T 212 3 [.inr (.inr 131), .inl a1, .inl a2] (q_push v []) S Q)) :
    z_C 212 [.inr (.inr 131), .inl a1, .inl a2] (z_st m g) Q := y_C_wp (cs := [3, 9, 29, 33, 36, 40]) (ng := []) (sy := []) (n := 300) y_212P h
theorem y_212_3 {m : z_M} {g : z_g} {Q : q_V → q_S → Prop} {a1 a2 s0 : Int} (h :
    z_ok s0 ∧
    (¬ s0 = (0 : Int) →
      z_C 213 [.inr (.inr 131), .inl a1] (z_st m g) (fun v S => z_T 212 9 [.inr (.inr 131), .inl a1, .inl a2] (q_push v []) S Q)) ∧
    (s0 = (0 : Int) →
      Q (.inl (-1 : Int)) (z_st m g))) :
    z_T 212 3 [.inr (.inr 131), .inl a1, .inl a2] [.inl s0] (z_st m g) Q := y_wp_T (cd := q_c212) (cs := [3, 9, 29, 33, 36, 40]) (ng := []) (sy := []) rfl 300 3 _ _ _ _ h
theorem y_212_9 {m : z_M} {g : z_g} {Q : q_V → q_S → Prop} {a1 a2 : Int} (h :
    z_ok a2 ∧
    (a2 = (0 : Int) → z_in a1 6 ∧
      Q (.inl (m 134 ((a1).toNat))) (z_st m g)) ∧
    (¬ a2 = (0 : Int) → (a2 = (1 : Int) → z_in a1 6 ∧
      Q (.inl (m 135 ((a1).toNat))) (z_st m g)) ∧
    (¬ a2 = (1 : Int) → (a2 = (2 : Int) → z_in a1 6 ∧
      Q (.inl (m 136 ((a1).toNat))) (z_st m g)) ∧
    (¬ a2 = (2 : Int) → (a2 = (3 : Int) → z_C 217 [.inr (.inr 131), .inl (1 : Int)] (z_st m g) (fun v S => z_T 212 29 [.inr (.inr 131), .inl a1, .inl a2] (q_push v []) S Q)) ∧
    (¬ a2 = (3 : Int) → (a2 = (4 : Int) → z_C 217 [.inr (.inr 131), .inl (2 : Int)] (z_st m g) (fun v S => z_T 212 33 [.inr (.inr 131), .inl a1, .inl a2] (q_push v []) S Q)) ∧
    (¬ a2 = (4 : Int) → (a2 = (5 : Int) → z_C 221 [.inr (.inr 131)] (z_st m g) (fun v S => z_T 212 36 [.inr (.inr 131), .inl a1, .inl a2] (q_push v []) S Q)) ∧
    (¬ a2 = (5 : Int) → (a2 = (6 : Int) → z_C 222 [.inr (.inr 131), .inl a1] (z_st m g) (fun v S => z_T 212 40 [.inr (.inr 131), .inl a1, .inl a2] (q_push v []) S Q)) ∧
    (¬ a2 = (6 : Int) → Q (.inl (-1 : Int)) (z_st m g))))))))) :
    z_T 212 9 [.inr (.inr 131), .inl a1, .inl a2] [] (z_st m g) Q := y_wp_T (cd := q_c212) (cs := [3, 9, 29, 33, 36, 40]) (ng := []) (sy := []) rfl 300 9 _ _ _ _ h
theorem y_212_29 {m : z_M} {g : z_g} {Q : q_V → q_S → Prop} {a1 a2 s0 : Int} (h :
    Q (.inl s0) (z_st m g)) :
    z_T 212 29 [.inr (.inr 131), .inl a1, .inl a2] [.inl s0] (z_st m g) Q := y_wp_T (cd := q_c212) (cs := [3, 9, 29, 33, 36, 40]) (ng := []) (sy := []) rfl 300 29 _ _ _ _ h
theorem y_212_33 {m : z_M} {g : z_g} {Q : q_V → q_S → Prop} {a1 a2 s0 : Int} (h :
    Q (.inl s0) (z_st m g)) :
    z_T 212 33 [.inr (.inr 131), .inl a1, .inl a2] [.inl s0] (z_st m g) Q := y_wp_T (cd := q_c212) (cs := [3, 9, 29, 33, 36, 40]) (ng := []) (sy := []) rfl 300 33 _ _ _ _ h
theorem y_212_36 {m : z_M} {g : z_g} {Q : q_V → q_S → Prop} {a1 a2 s0 : Int} (h :
    Q (.inl s0) (z_st m g)) :
    z_T 212 36 [.inr (.inr 131), .inl a1, .inl a2] [.inl s0] (z_st m g) Q := y_wp_T (cd := q_c212) (cs := [3, 9, 29, 33, 36, 40]) (ng := []) (sy := []) rfl 300 36 _ _ _ _ h
theorem y_212_40 {m : z_M} {g : z_g} {Q : q_V → q_S → Prop} {a1 a2 : Int} (h :
    z_ok (m 131 15) ∧
    ((0 : Int) ≤ (m 131 15) →
      Q (.inl (m 131 15)) (z_st m g)) ∧
    ((m 131 15) < (0 : Int) →
      Q (.inl (-5 : Int)) (z_st m g))) :
    z_T 212 40 [.inr (.inr 131), .inl a1, .inl a2] [] (z_st m g) Q := y_wp_T (cd := q_c212) (cs := [3, 9, 29, 33, 36, 40]) (ng := []) (sy := []) rfl 300 40 _ _ _ _ h
