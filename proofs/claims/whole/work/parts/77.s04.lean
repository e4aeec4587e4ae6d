/-! segments of the methods (written by wip/whole/segall.py) -/
theorem y_213P : q_P 213 = (q_c213, 3) := rfl
theorem y_213 {m : z_M} {g : z_g} {Q : q_V → q_S → Prop} {a1 : Int} (h :
    z_T 213 2 [.inr (.inr 131), .inl a1, .inl (0 : Int)] [] (z_st m g) Q) :
    z_C 213 [.inr (.inr 131), .inl a1] (z_st m g) Q := y_C_wp (cs := [2, 12]) (ng := []) (sy := []) (n := 300) y_213P h
theorem y_213_2 {m : z_M} {g : z_g} {Q : q_V → q_S → Prop} {a1 a2 : Int} (h :
    z_ok2 a2 (13 : Int) ∧
    ((13 : Int) ≤ a2 →
      Q q_dead (z_st m g)) ∧
    (a2 < (13 : Int) →
      z_C 214 [.inr (.inr 131), .inl a1, .inl a2] (z_st m g) (fun v S => z_T 213 12 [.inr (.inr 131), .inl a1, .inl a2] (q_push v [.inl a2, .inr (.inr 138)]) S Q))) :
    z_T 213 2 [.inr (.inr 131), .inl a1, .inl a2] [] (z_st m g) Q := y_wp_T (cd := q_c213) (cs := [2, 12]) (ng := []) (sy := []) rfl 300 2 _ _ _ _ h
theorem y_213_12 {m : z_M} {g : z_g} {Q : q_V → q_S → Prop} {a1 a2 s0 s1 : Int} (h :
    z_in s1 13 ∧
    z_T 213 2 [.inr (.inr 131), .inl a1, .inl (a2 + (1 : Int))] [] (z_st (q_upd m 138 ((s1).toNat) s0) g) Q) :
    z_T 213 12 [.inr (.inr 131), .inl a1, .inl a2] [.inl s0, .inl s1, .inr (.inr 138)] (z_st m g) Q := y_wp_T (cd := q_c213) (cs := [2, 12]) (ng := []) (sy := []) rfl 300 12 _ _ _ _ h
theorem y_214P : q_P 214 = (q_c214, 6) := rfl
theorem y_214 {m : z_M} {g : z_g} {Q : q_V → q_S → Prop} {a1 a2 : Int} (h :
    z_C 210 [.inr (.inr 131), .inl a1] (z_st m g) (fun v S => z_T 214 3 [.inr (.inr 131), .inl a1, .inl a2, q_dead, q_dead, q_dead] (q_push v []) S Q)) :
    z_C 214 [.inr (.inr 131), .inl a1, .inl a2] (z_st m g) Q := y_C_wp (cs := [3, 5, 44, 48, 59, 64, 65, 71, 77, 81]) (ng := []) (sy := []) (n := 300) y_214P h
theorem y_214_3 {m : z_M} {g : z_g} {Q : q_V → q_S → Prop} {a1 a2 s0 : Int} (h :
    z_C 204 [.inl s0, .inl a2] (z_st m g) (fun v S => z_T 214 5 [.inr (.inr 131), .inl a1, .inl a2, q_dead, q_dead, q_dead] (q_push v []) S Q)) :
    z_T 214 3 [.inr (.inr 131), .inl a1, .inl a2, q_dead, q_dead, q_dead] [.inl s0] (z_st m g) Q := y_wp_T (cd := q_c214) (cs := [3, 5, 44, 48, 59, 64, 65, 71, 77, 81]) (ng := []) (sy := []) rfl 300 3 _ _ _ _ h
set_option maxRecDepth 20000 in
theorem y_214_5 {m : z_M} {g : z_g} {Q : q_V → q_S → Prop} {a1 a2 s0 : Int} (h :
    z_ok s0 ∧
    (¬ s0 = (0 : Int) →
      z_in (((13 : Int) * a1) + a2) 78 ∧
      z_dv a2 (2 : Int) ∧
      z_ok2 (a2 % (2 : Int)) (1 : Int) ∧
      (¬ (a2 % (2 : Int)) = (1 : Int) →
        z_in a1 6 ∧
        z_in a1 6 ∧
        z_ok (m 135 ((a1).toNat)) ∧
        ((m 135 ((a1).toNat)) = (1 : Int) → z_C 215 [.inr (.inr 131), .inl (m 137 ((((13 : Int) * a1) + a2).toNat))] (z_st m g) (fun v S => z_T 214 44 [.inr (.inr 131), .inl a1, .inl a2, .inl (m 137 ((((13 : Int) * a1) + a2).toNat)), .inl (m 137 ((((13 : Int) * a1) + a2).toNat)), .inl ((m 137 ((((13 : Int) * a1) + a2).toNat)) * ((m 136 ((a1).toNat)) + (1 : Int)))] (q_push v []) S Q)) ∧
        (¬ (m 135 ((a1).toNat)) = (1 : Int) → ((m 135 ((a1).toNat)) = (2 : Int) → z_C 215 [.inr (.inr 131), .inl ((m 137 ((((13 : Int) * a1) + a2).toNat)) * ((m 136 ((a1).toNat)) + (1 : Int)))] (z_st m g) (fun v S => z_T 214 48 [.inr (.inr 131), .inl a1, .inl a2, .inl (m 137 ((((13 : Int) * a1) + a2).toNat)), .inl (m 137 ((((13 : Int) * a1) + a2).toNat)), .inl ((m 137 ((((13 : Int) * a1) + a2).toNat)) * ((m 136 ((a1).toNat)) + (1 : Int)))] (q_push v []) S Q)) ∧
        (¬ (m 135 ((a1).toNat)) = (2 : Int) → ((m 135 ((a1).toNat)) = (3 : Int) → z_in a1 6 ∧
          z_C 215 [.inr (.inr 131), .inl ((m 137 ((((13 : Int) * a1) + a2).toNat)) * (a2 + (m 136 ((a1).toNat))))] (z_st m g) (fun v S => z_T 214 59 [.inr (.inr 131), .inl a1, .inl a2, .inl (m 137 ((((13 : Int) * a1) + a2).toNat)), .inl (m 137 ((((13 : Int) * a1) + a2).toNat)), .inl ((m 137 ((((13 : Int) * a1) + a2).toNat)) * ((m 136 ((a1).toNat)) + (1 : Int)))] (q_push v []) S Q)) ∧
        (¬ (m 135 ((a1).toNat)) = (3 : Int) → ((m 135 ((a1).toNat)) = (4 : Int) → z_C 210 [.inr (.inr 131), .inl a1] (z_st m g) (fun v S => z_T 214 64 [.inr (.inr 131), .inl a1, .inl a2, .inl (m 137 ((((13 : Int) * a1) + a2).toNat)), .inl (m 137 ((((13 : Int) * a1) + a2).toNat)), .inl ((m 137 ((((13 : Int) * a1) + a2).toNat)) * ((m 136 ((a1).toNat)) + (1 : Int)))] (q_push v [.inl a2]) S Q)) ∧
        (¬ (m 135 ((a1).toNat)) = (4 : Int) → ((m 135 ((a1).toNat)) = (5 : Int) → z_C 215 [.inr (.inr 131), .inl (a2 * (m 137 ((((13 : Int) * a1) + a2).toNat)))] (z_st m g) (fun v S => z_T 214 77 [.inr (.inr 131), .inl a1, .inl a2, .inl (m 137 ((((13 : Int) * a1) + a2).toNat)), .inl (m 137 ((((13 : Int) * a1) + a2).toNat)), .inl ((m 137 ((((13 : Int) * a1) + a2).toNat)) * ((m 136 ((a1).toNat)) + (1 : Int)))] (q_push v []) S Q)) ∧
        (¬ (m 135 ((a1).toNat)) = (5 : Int) → z_C 215 [.inr (.inr 131), .inl (m 137 ((((13 : Int) * a1) + a2).toNat))] (z_st m g) (fun v S => z_T 214 81 [.inr (.inr 131), .inl a1, .inl a2, .inl (m 137 ((((13 : Int) * a1) + a2).toNat)), .inl (m 137 ((((13 : Int) * a1) + a2).toNat)), .inl ((m 137 ((((13 : Int) * a1) + a2).toNat)) * ((m 136 ((a1).toNat)) + (1 : Int)))] (q_push v []) S Q))))))) ∧
      ((a2 % (2 : Int)) = (1 : Int) →
        z_in a1 6 ∧
        z_in a1 6 ∧
        z_ok (m 135 ((a1).toNat)) ∧
        ((m 135 ((a1).toNat)) = (1 : Int) → z_C 215 [.inr (.inr 131), .inl (-(m 137 ((((13 : Int) * a1) + a2).toNat)))] (z_st m g) (fun v S => z_T 214 44 [.inr (.inr 131), .inl a1, .inl a2, .inl (m 137 ((((13 : Int) * a1) + a2).toNat)), .inl (-(m 137 ((((13 : Int) * a1) + a2).toNat))), .inl ((m 137 ((((13 : Int) * a1) + a2).toNat)) * ((m 136 ((a1).toNat)) + (1 : Int)))] (q_push v []) S Q)) ∧
        (¬ (m 135 ((a1).toNat)) = (1 : Int) → ((m 135 ((a1).toNat)) = (2 : Int) → z_C 215 [.inr (.inr 131), .inl ((m 137 ((((13 : Int) * a1) + a2).toNat)) * ((m 136 ((a1).toNat)) + (1 : Int)))] (z_st m g) (fun v S => z_T 214 48 [.inr (.inr 131), .inl a1, .inl a2, .inl (m 137 ((((13 : Int) * a1) + a2).toNat)), .inl (-(m 137 ((((13 : Int) * a1) + a2).toNat))), .inl ((m 137 ((((13 : Int) * a1) + a2).toNat)) * ((m 136 ((a1).toNat)) + (1 : Int)))] (q_push v []) S Q)) ∧
        (¬ (m 135 ((a1).toNat)) = (2 : Int) → ((m 135 ((a1).toNat)) = (3 : Int) → z_in a1 6 ∧
          z_C 215 [.inr (.inr 131), .inl ((-(m 137 ((((13 : Int) * a1) + a2).toNat))) * (a2 + (m 136 ((a1).toNat))))] (z_st m g) (fun v S => z_T 214 59 [.inr (.inr 131), .inl a1, .inl a2, .inl (m 137 ((((13 : Int) * a1) + a2).toNat)), .inl (-(m 137 ((((13 : Int) * a1) + a2).toNat))), .inl ((m 137 ((((13 : Int) * a1) + a2).toNat)) * ((m 136 ((a1).toNat)) + (1 : Int)))] (q_push v []) S Q)) ∧
        (¬ (m 135 ((a1).toNat)) = (3 : Int) → ((m 135 ((a1).toNat)) = (4 : Int) → z_C 210 [.inr (.inr 131), .inl a1] (z_st m g) (fun v S => z_T 214 64 [.inr (.inr 131), .inl a1, .inl a2, .inl (m 137 ((((13 : Int) * a1) + a2).toNat)), .inl (-(m 137 ((((13 : Int) * a1) + a2).toNat))), .inl ((m 137 ((((13 : Int) * a1) + a2).toNat)) * ((m 136 ((a1).toNat)) + (1 : Int)))] (q_push v [.inl a2]) S Q)) ∧
        (¬ (m 135 ((a1).toNat)) = (4 : Int) → ((m 135 ((a1).toNat)) = (5 : Int) → z_C 215 [.inr (.inr 131), .inl (a2 * (m 137 ((((13 : Int) * a1) + a2).toNat)))] (z_st m g) (fun v S => z_T 214 77 [.inr (.inr 131), .inl a1, .inl a2, .inl (m 137 ((((13 : Int) * a1) + a2).toNat)), .inl (-(m 137 ((((13 : Int) * a1) + a2).toNat))), .inl ((m 137 ((((13 : Int) * a1) + a2).toNat)) * ((m 136 ((a1).toNat)) + (1 : Int)))] (q_push v []) S Q)) ∧
        (¬ (m 135 ((a1).toNat)) = (5 : Int) → z_C 215 [.inr (.inr 131), .inl (m 137 ((((13 : Int) * a1) + a2).toNat))] (z_st m g) (fun v S => z_T 214 81 [.inr (.inr 131), .inl a1, .inl a2, .inl (m 137 ((((13 : Int) * a1) + a2).toNat)), .inl (-(m 137 ((((13 : Int) * a1) + a2).toNat))), .inl ((m 137 ((((13 : Int) * a1) + a2).toNat)) * ((m 136 ((a1).toNat)) + (1 : Int)))] (q_push v []) S Q)))))))) ∧
    (s0 = (0 : Int) →
      Q (.inl (0 : Int)) (z_st m g))) :
    z_T 214 5 [.inr (.inr 131), .inl a1, .inl a2, q_dead, q_dead, q_dead] [.inl s0] (z_st m g) Q := y_wp_T (cd := q_c214) (cs := [3, 5, 44, 48, 59, 64, 65, 71, 77, 81]) (ng := []) (sy := []) rfl 300 5 _ _ _ _ h
theorem y_214_44 {m : z_M} {g : z_g} {Q : q_V → q_S → Prop} {a1 a2 a3 a4 a5 s0 : Int} (h :
    Q (.inl s0) (z_st m g)) :
    z_T 214 44 [.inr (.inr 131), .inl a1, .inl a2, .inl a3, .inl a4, .inl a5] [.inl s0] (z_st m g) Q := y_wp_T (cd := q_c214) (cs := [3, 5, 44, 48, 59, 64, 65, 71, 77, 81]) (ng := []) (sy := []) rfl 300 44 _ _ _ _ h
theorem y_214_48 {m : z_M} {g : z_g} {Q : q_V → q_S → Prop} {a1 a2 a3 a4 a5 s0 : Int} (h :
    Q (.inl s0) (z_st m g)) :
    z_T 214 48 [.inr (.inr 131), .inl a1, .inl a2, .inl a3, .inl a4, .inl a5] [.inl s0] (z_st m g) Q := y_wp_T (cd := q_c214) (cs := [3, 5, 44, 48, 59, 64, 65, 71, 77, 81]) (ng := []) (sy := []) rfl 300 48 _ _ _ _ h
theorem y_214_59 {m : z_M} {g : z_g} {Q : q_V → q_S → Prop} {a1 a2 a3 a4 a5 s0 : Int} (h :
    Q (.inl s0) (z_st m g)) :
    z_T 214 59 [.inr (.inr 131), .inl a1, .inl a2, .inl a3, .inl a4, .inl a5] [.inl s0] (z_st m g) Q := y_wp_T (cd := q_c214) (cs := [3, 5, 44, 48, 59, 64, 65, 71, 77, 81]) (ng := []) (sy := []) rfl 300 59 _ _ _ _ h
theorem y_214_64 {m : z_M} {g : z_g} {Q : q_V → q_S → Prop} {a1 a2 a3 a4 a5 s0 s1 : Int} (h :
    z_C 197 [.inl s0] (z_st m g) (fun v S => z_T 214 65 [.inr (.inr 131), .inl a1, .inl a2, .inl a3, .inl a4, .inl a5] (q_push v [.inl s1]) S Q)) :
    z_T 214 64 [.inr (.inr 131), .inl a1, .inl a2, .inl a3, .inl a4, .inl a5] [.inl s0, .inl s1] (z_st m g) Q := y_wp_T (cd := q_c214) (cs := [3, 5, 44, 48, 59, 64, 65, 71, 77, 81]) (ng := []) (sy := []) rfl 300 64 _ _ _ _ h
theorem y_214_65 {m : z_M} {g : z_g} {Q : q_V → q_S → Prop} {a1 a2 a3 a4 a5 s0 s1 : Int} (h :
    z_ok2 s1 s0 ∧
    (¬ s1 = s0 →
      z_C 215 [.inr (.inr 131), .inl a5] (z_st m g) (fun v S => z_T 214 71 [.inr (.inr 131), .inl a1, .inl a2, .inl a3, .inl a4, .inl a5] (q_push v []) S Q)) ∧
    (s1 = s0 →
      z_T 214 71 [.inr (.inr 131), .inl a1, .inl a2, .inl a3, .inl a4, .inl a5] [.inl (0 : Int)] (z_st m g) Q)) :
    z_T 214 65 [.inr (.inr 131), .inl a1, .inl a2, .inl a3, .inl a4, .inl a5] [.inl s0, .inl s1] (z_st m g) Q := y_wp_T (cd := q_c214) (cs := [3, 5, 44, 48, 59, 64, 65, 71, 77, 81]) (ng := []) (sy := []) rfl 300 65 _ _ _ _ h
theorem y_214_71 {m : z_M} {g : z_g} {Q : q_V → q_S → Prop} {a1 a2 a3 a4 a5 s0 : Int} (h :
    Q (.inl s0) (z_st m g)) :
    z_T 214 71 [.inr (.inr 131), .inl a1, .inl a2, .inl a3, .inl a4, .inl a5] [.inl s0] (z_st m g) Q := y_wp_T (cd := q_c214) (cs := [3, 5, 44, 48, 59, 64, 65, 71, 77, 81]) (ng := []) (sy := []) rfl 300 71 _ _ _ _ h
theorem y_214_77 {m : z_M} {g : z_g} {Q : q_V → q_S → Prop} {a1 a2 a3 a4 a5 s0 : Int} (h :
    Q (.inl s0) (z_st m g)) :
    z_T 214 77 [.inr (.inr 131), .inl a1, .inl a2, .inl a3, .inl a4, .inl a5] [.inl s0] (z_st m g) Q := y_wp_T (cd := q_c214) (cs := [3, 5, 44, 48, 59, 64, 65, 71, 77, 81]) (ng := []) (sy := []) rfl 300 77 _ _ _ _ h
theorem y_214_81 {m : z_M} {g : z_g} {Q : q_V → q_S → Prop} {a1 a2 a3 a4 a5 s0 : Int} (h :
    Q (.inl s0) (z_st m g)) :
    z_T 214 81 [.inr (.inr 131), .inl a1, .inl a2, .inl a3, .inl a4, .inl a5] [.inl s0] (z_st m g) Q := y_wp_T (cd := q_c214) (cs := [3, 5, 44, 48, 59, 64, 65, 71, 77, 81]) (ng := []) (sy := []) rfl 300 81 _ _ _ _ h
theorem y_215P : q_P 215 = (q_c215, 2) := rfl
theorem y_215 {m : z_M} {g : z_g} {Q : q_V → q_S → Prop} {a1 : Int} (h :
    z_C 216 [.inr (.inr 131)] (z_st m g) (fun v S => z_T 215 3 [.inr (.inr 131), .inl a1] (q_push v [.inl a1]) S Q)) :
    z_C 215 [.inr (.inr 131), .inl a1] (z_st m g) Q := y_C_wp (cs := [3, 6, 9]) (ng := []) (sy := []) (n := 300) y_215P h
theorem y_215_3 {m : z_M} {g : z_g} {Q : q_V → q_S → Prop} {a1 s0 s1 : Int} (h :
    z_dw s1 s0 ∧
    z_C 216 [.inr (.inr 131)] (z_st m g) (fun v S => z_T 215 6 [.inr (.inr 131), .inl a1] (q_push v [.inl ((s1).tmod s0)]) S Q)) :
    z_T 215 3 [.inr (.inr 131), .inl a1] [.inl s0, .inl s1] (z_st m g) Q := y_wp_T (cd := q_c215) (cs := [3, 6, 9]) (ng := [3]) (sy := []) rfl 300 3 _ _ _ _ h
theorem y_215_6 {m : z_M} {g : z_g} {Q : q_V → q_S → Prop} {a1 s0 s1 : Int} (h :
    z_C 216 [.inr (.inr 131)] (z_st m g) (fun v S => z_T 215 9 [.inr (.inr 131), .inl a1] (q_push v [.inl (s1 + s0)]) S Q)) :
    z_T 215 6 [.inr (.inr 131), .inl a1] [.inl s0, .inl s1] (z_st m g) Q := y_wp_T (cd := q_c215) (cs := [3, 6, 9]) (ng := []) (sy := []) rfl 300 6 _ _ _ _ h
theorem y_215_9 {m : z_M} {g : z_g} {Q : q_V → q_S → Prop} {a1 s0 s1 : Int} (h :
    z_dw s1 s0 ∧
    Q (.inl ((s1).tmod s0)) (z_st m g)) :
    z_T 215 9 [.inr (.inr 131), .inl a1] [.inl s0, .inl s1] (z_st m g) Q := y_wp_T (cd := q_c215) (cs := [3, 6, 9]) (ng := [9]) (sy := []) rfl 300 9 _ _ _ _ h
theorem y_216P : q_P 216 = (q_c216, 1) := rfl
theorem y_216 {m : z_M} {g : z_g} {Q : q_V → q_S → Prop} (h :
    z_in (m 131 1) 9 ∧
    Q (.inl (m 132 ((m 131 1).toNat))) (z_st m g)) :
    z_C 216 [.inr (.inr 131)] (z_st m g) Q := y_C_wp (cs := []) (ng := []) (sy := []) (n := 300) y_216P h
theorem y_217P : q_P 217 = (q_c217, 4) := rfl
theorem y_217 {m : z_M} {g : z_g} {Q : q_V → q_S → Prop} {a1 : Int} (h :
    z_T 217 4 [.inr (.inr 131), .inl a1, .inl (0 : Int), .inl (1 : Int)] [] (z_st m g) Q) :
    z_C 217 [.inr (.inr 131), .inl a1] (z_st m g) Q := y_C_wp (cs := [4, 7, 12]) (ng := []) (sy := []) (n := 300) y_217P h
theorem y_217_4 {m : z_M} {g : z_g} {Q : q_V → q_S → Prop} {a1 a2 a3 : Int} (h :
    z_C 216 [.inr (.inr 131)] (z_st m g) (fun v S => z_T 217 7 [.inr (.inr 131), .inl a1, .inl a2, .inl a3] (q_push v [.inl a3]) S Q)) :
    z_T 217 4 [.inr (.inr 131), .inl a1, .inl a2, .inl a3] [] (z_st m g) Q := y_wp_T (cd := q_c217) (cs := [4, 7, 12]) (ng := []) (sy := []) rfl 300 4 _ _ _ _ h
theorem y_217_7 {m : z_M} {g : z_g} {Q : q_V → q_S → Prop} {a1 a2 a3 s0 s1 : Int} (h :
    z_ok2 s1 s0 ∧
    (s0 ≤ s1 →
      Q (.inl a2) (z_st m g)) ∧
    (s1 < s0 →
      z_C 218 [.inr (.inr 131), .inl a3] (z_st m g) (fun v S => z_T 217 12 [.inr (.inr 131), .inl a1, .inl a2, .inl a3] (q_push v [.inl a2]) S Q))) :
    z_T 217 7 [.inr (.inr 131), .inl a1, .inl a2, .inl a3] [.inl s0, .inl s1] (z_st m g) Q := y_wp_T (cd := q_c217) (cs := [4, 7, 12]) (ng := []) (sy := []) rfl 300 7 _ _ _ _ h
theorem y_217_12 {m : z_M} {g : z_g} {Q : q_V → q_S → Prop} {a1 a2 a3 s0 s1 : Int} (h :
    z_ok2 s0 a1 ∧
    (s0 < a1 →
      z_T 217 4 [.inr (.inr 131), .inl a1, .inl (q_bin 4 s1 (0 : Int)), .inl (a3 + (1 : Int))] [] (z_st m g) Q) ∧
    (a1 ≤ s0 →
      z_T 217 4 [.inr (.inr 131), .inl a1, .inl (q_bin 4 s1 (q_bin 6 (1 : Int) a3)), .inl (a3 + (1 : Int))] [] (z_st m g) Q)) :
    z_T 217 12 [.inr (.inr 131), .inl a1, .inl a2, .inl a3] [.inl s0, .inl s1] (z_st m g) Q := y_wp_T (cd := q_c217) (cs := [4, 7, 12]) (ng := []) (sy := []) rfl 300 12 _ _ _ _ h
theorem y_218P : q_P 218 = (q_c218, 3) := rfl
theorem y_218 {m : z_M} {g : z_g} {Q : q_V → q_S → Prop} {a1 : Int} (h :
    z_C 219 [.inr (.inr 131)] (z_st m g) (fun v S => z_T 218 2 [.inr (.inr 131), .inl a1, q_dead] (q_push v []) S Q)) :
    z_C 218 [.inr (.inr 131), .inl a1] (z_st m g) Q := y_C_wp (cs := [2, 7, 22, 25]) (ng := []) (sy := []) (n := 300) y_218P h
theorem y_218_2 {m : z_M} {g : z_g} {Q : q_V → q_S → Prop} {a1 s0 : Int} (h :
    z_ok s0 ∧
    (s0 = (0 : Int) →
      z_T 218 7 [.inr (.inr 131), .inl a1, .inl (0 : Int)] [] (z_st m g) Q) ∧
    (¬ s0 = (0 : Int) →
      Q (.inl (99 : Int)) (z_st m g))) :
    z_T 218 2 [.inr (.inr 131), .inl a1, q_dead] [.inl s0] (z_st m g) Q := y_wp_T (cd := q_c218) (cs := [2, 7, 22, 25]) (ng := []) (sy := []) rfl 300 2 _ _ _ _ h
theorem y_218_7 {m : z_M} {g : z_g} {Q : q_V → q_S → Prop} {a1 a2 : Int} (h :
    z_ok2 a2 (13 : Int) ∧
    ((13 : Int) ≤ a2 →
      z_T 218 22 [.inr (.inr 131), .inl a1, .inl (0 : Int)] [] (z_st m g) Q) ∧
    (a2 < (13 : Int) →
      z_in a2 13 ∧
      z_in a2 13 ∧
      z_T 218 7 [.inr (.inr 131), .inl a1, .inl (a2 + (1 : Int))] [] (z_st (q_upd m 139 ((a2).toNat) (m 138 ((a2).toNat))) g) Q)) :
    z_T 218 7 [.inr (.inr 131), .inl a1, .inl a2] [] (z_st m g) Q := y_wp_T (cd := q_c218) (cs := [2, 7, 22, 25]) (ng := []) (sy := []) rfl 300 7 _ _ _ _ h
theorem y_218_22 {m : z_M} {g : z_g} {Q : q_V → q_S → Prop} {a1 a2 : Int} (h :
    z_C 220 [.inr (.inr 131), .inl a1] (z_st m g) (fun v S => z_T 218 25 [.inr (.inr 131), .inl a1, .inl a2] (q_push v []) S Q)) :
    z_T 218 22 [.inr (.inr 131), .inl a1, .inl a2] [] (z_st m g) Q := y_wp_T (cd := q_c218) (cs := [2, 7, 22, 25]) (ng := []) (sy := []) rfl 300 22 _ _ _ _ h
theorem y_218_25 {m : z_M} {g : z_g} {Q : q_V → q_S → Prop} {a1 a2 s0 : Int} (h :
    z_ok s0 ∧
    (s0 = (0 : Int) →
      Q (.inl a2) (z_st m g)) ∧
    (¬ s0 = (0 : Int) →
      z_T 218 22 [.inr (.inr 131), .inl a1, .inl (a2 + (1 : Int))] [] (z_st m g) Q)) :
    z_T 218 25 [.inr (.inr 131), .inl a1, .inl a2] [.inl s0] (z_st m g) Q := y_wp_T (cd := q_c218) (cs := [2, 7, 22, 25]) (ng := []) (sy := []) rfl 300 25 _ _ _ _ h
theorem y_219P : q_P 219 = (q_c219, 3) := rfl
theorem y_219 {m : z_M} {g : z_g} {Q : q_V → q_S → Prop} (h :
    z_T 219 4 [.inr (.inr 131), .inl (1 : Int), .inl (0 : Int)] [] (z_st m g) Q) :
    z_C 219 [.inr (.inr 131)] (z_st m g) Q := y_C_wp (cs := [4]) (ng := []) (sy := []) (n := 300) y_219P h
theorem y_219_4 {m : z_M} {g : z_g} {Q : q_V → q_S → Prop} {a1 a2 : Int} (h :
    z_ok2 a2 (13 : Int) ∧
    ((13 : Int) ≤ a2 →
      (a1 = 0 ∨ a1 = 1) ∧ Q (.inl a1) (z_st m g)) ∧
    (a2 < (13 : Int) →
      z_in a2 13 ∧
      z_ok (m 138 ((a2).toNat)) ∧
      (¬ (m 138 ((a2).toNat)) = (0 : Int) →
        z_T 219 4 [.inr (.inr 131), .inl (q_bin 3 a1 (0 : Int)), .inl (a2 + (1 : Int))] [] (z_st m g) Q) ∧
      ((m 138 ((a2).toNat)) = (0 : Int) →
        z_T 219 4 [.inr (.inr 131), .inl (q_bin 3 a1 (1 : Int)), .inl (a2 + (1 : Int))] [] (z_st m g) Q))) :
    z_T 219 4 [.inr (.inr 131), .inl a1, .inl a2] [] (z_st m g) Q := y_wp_T (cd := q_c219) (cs := [4]) (ng := [21]) (sy := []) rfl 300 4 _ _ _ _ h
theorem y_220P : q_P 220 = (q_c220, 5) := rfl
theorem y_220 {m : z_M} {g : z_g} {Q : q_V → q_S → Prop} {a1 : Int} (h :
    z_T 220 4 [.inr (.inr 131), .inl a1, .inl (0 : Int), .inl (12 : Int), q_dead] [] (z_st m g) Q) :
    z_C 220 [.inr (.inr 131), .inl a1] (z_st m g) Q := y_C_wp (cs := [4, 16, 26, 45]) (ng := []) (sy := []) (n := 300) y_220P h
theorem y_220_4 {m : z_M} {g : z_g} {Q : q_V → q_S → Prop} {a1 a2 a3 : Int} (h :
    z_ok a3 ∧
    (a3 < (0 : Int) →
      z_ok a2 ∧
      (a2 = (0 : Int) →
        z_T 220 26 [.inr (.inr 131), .inl a1, .inl a2, .inl (12 : Int), q_dead] [] (z_st m g) Q) ∧
      (¬ a2 = (0 : Int) →
        Q (.inl (0 : Int)) (z_st m g))) ∧
    ((0 : Int) ≤ a3 →
      z_in a3 13 ∧
      z_C 216 [.inr (.inr 131)] (z_st m g) (fun v S => z_T 220 16 [.inr (.inr 131), .inl a1, .inl a2, .inl a3, q_dead] (q_push v [.inl ((a2 * a1) + (m 139 ((a3).toNat)))]) S Q))) :
    z_T 220 4 [.inr (.inr 131), .inl a1, .inl a2, .inl a3, q_dead] [] (z_st m g) Q := y_wp_T (cd := q_c220) (cs := [4, 16, 26, 45]) (ng := []) (sy := []) rfl 300 4 _ _ _ _ h
theorem y_220_16 {m : z_M} {g : z_g} {Q : q_V → q_S → Prop} {a1 a2 a3 s0 s1 : Int} (h :
    z_dv s1 s0 ∧
    z_T 220 4 [.inr (.inr 131), .inl a1, .inl (s1 % s0), .inl (a3 + (-1 : Int)), q_dead] [] (z_st m g) Q) :
    z_T 220 16 [.inr (.inr 131), .inl a1, .inl a2, .inl a3, q_dead] [.inl s0, .inl s1] (z_st m g) Q := y_wp_T (cd := q_c220) (cs := [4, 16, 26, 45]) (ng := []) (sy := []) rfl 300 16 _ _ _ _ h
theorem y_220_26 {m : z_M} {g : z_g} {Q : q_V → q_S → Prop} {a1 a2 a3 : Int} {da4 : q_V} (h :
    z_ok a3 ∧
    (a3 < (0 : Int) →
      Q (.inl (1 : Int)) (z_st m g)) ∧
    ((0 : Int) ≤ a3 →
      z_in a3 13 ∧
      z_in a3 13 ∧
      z_C 216 [.inr (.inr 131)] (z_st (q_upd m 139 ((a3).toNat) a2) g) (fun v S => z_T 220 45 [.inr (.inr 131), .inl a1, .inl a2, .inl a3, .inl (m 139 ((a3).toNat))] (q_push v [.inl ((a2 * a1) + (m 139 ((a3).toNat)))]) S Q))) :
    z_T 220 26 [.inr (.inr 131), .inl a1, .inl a2, .inl a3, da4] [] (z_st m g) Q := y_wp_T (cd := q_c220) (cs := [4, 16, 26, 45]) (ng := []) (sy := []) rfl 300 26 _ _ _ _ h
theorem y_220_45 {m : z_M} {g : z_g} {Q : q_V → q_S → Prop} {a1 a2 a3 a4 s0 s1 : Int} (h :
    z_dv s1 s0 ∧
    z_T 220 26 [.inr (.inr 131), .inl a1, .inl (s1 % s0), .inl (a3 + (-1 : Int)), .inl a4] [] (z_st m g) Q) :
    z_T 220 45 [.inr (.inr 131), .inl a1, .inl a2, .inl a3, .inl a4] [.inl s0, .inl s1] (z_st m g) Q := y_wp_T (cd := q_c220) (cs := [4, 16, 26, 45]) (ng := []) (sy := []) rfl 300 45 _ _ _ _ h
theorem y_221P : q_P 221 = (q_c221, 3) := rfl
theorem y_221 {m : z_M} {g : z_g} {Q : q_V → q_S → Prop} (h :
    z_T 221 4 [.inr (.inr 131), .inl (0 : Int), .inl (0 : Int)] [] (z_st m g) Q) :
    z_C 221 [.inr (.inr 131)] (z_st m g) Q := y_C_wp (cs := [4]) (ng := []) (sy := []) (n := 300) y_221P h
theorem y_221_4 {m : z_M} {g : z_g} {Q : q_V → q_S → Prop} {a1 a2 : Int} (h :
    z_ok2 a2 (13 : Int) ∧
    ((13 : Int) ≤ a2 →
      Q (.inl a1) (z_st m g)) ∧
    (a2 < (13 : Int) →
      z_in a2 13 ∧
      z_ok (m 138 ((a2).toNat)) ∧
      ((m 138 ((a2).toNat)) = (0 : Int) →
        z_T 221 4 [.inr (.inr 131), .inl (a1 + (0 : Int)), .inl (a2 + (1 : Int))] [] (z_st m g) Q) ∧
      (¬ (m 138 ((a2).toNat)) = (0 : Int) →
        z_T 221 4 [.inr (.inr 131), .inl (a1 + (1 : Int)), .inl (a2 + (1 : Int))] [] (z_st m g) Q))) :
    z_T 221 4 [.inr (.inr 131), .inl a1, .inl a2] [] (z_st m g) Q := y_wp_T (cd := q_c221) (cs := [4]) (ng := []) (sy := []) rfl 300 4 _ _ _ _ h
theorem y_222P : q_P 222 = (q_c222, 4) := rfl
theorem y_222 {m : z_M} {g : z_g} {Q : q_V → q_S → Prop} {a1 : Int} (h :
    z_C 223 [.inr (.inr 131), .inl a1] (z_st m g) (fun v S => z_T 222 3 [.inr (.inr 131), .inl a1, q_dead, q_dead] (q_push v []) S Q)) :
    z_C 222 [.inr (.inr 131), .inl a1] (z_st m g) Q := y_C_wp (cs := [3, 5, 26, 29, 34, 35, 37, 65, 78, 81, 95]) (ng := []) (sy := []) (n := 300) y_222P h
theorem y_222_3 {m : z_M} {g : z_g} {Q : q_V → q_S → Prop} {a1 : Int} (h :
    z_T 222 5 [.inr (.inr 131), .inl a1, .inl (0 : Int), q_dead] [] (z_st m g) Q) :
    z_T 222 3 [.inr (.inr 131), .inl a1, q_dead, q_dead] [] (z_st m g) Q := y_wp_T (cd := q_c222) (cs := [3, 5, 26, 29, 34, 35, 37, 65, 78, 81, 95]) (ng := []) (sy := []) rfl 300 3 _ _ _ _ h
theorem y_222_5 {m : z_M} {g : z_g} {Q : q_V → q_S → Prop} {a1 a2 : Int} (h :
    z_ok2 a2 (13 : Int) ∧
    ((13 : Int) ≤ a2 →
      z_T 222 26 [.inr (.inr 131), .inl a1, .inl a2, q_dead] [] (z_st m g) Q) ∧
    (a2 < (13 : Int) →
      z_in a2 13 ∧
      z_in a2 13 ∧
      z_in a2 13 ∧
      z_in a2 13 ∧
      z_T 222 5 [.inr (.inr 131), .inl a1, .inl (a2 + (1 : Int)), q_dead] [] (z_st (q_upd (q_upd m 142 ((a2).toNat) (m 140 ((a2).toNat))) 143 ((a2).toNat) (m 141 ((a2).toNat))) g) Q)) :
    z_T 222 5 [.inr (.inr 131), .inl a1, .inl a2, q_dead] [] (z_st m g) Q := y_wp_T (cd := q_c222) (cs := [3, 5, 26, 29, 34, 35, 37, 65, 78, 81, 95]) (ng := []) (sy := []) rfl 300 5 _ _ _ _ h
theorem y_222_26 {m : z_M} {g : z_g} {Q : q_V → q_S → Prop} {a1 a2 : Int} {da3 : q_V} (h :
    z_C 224 [.inr (.inr 143)] (z_st m g) (fun v S => z_T 222 29 [.inr (.inr 131), .inl a1, .inl a2, da3] (q_push v []) S Q)) :
    z_T 222 26 [.inr (.inr 131), .inl a1, .inl a2, da3] [] (z_st m g) Q := y_wp_T (cd := q_c222) (cs := [3, 5, 26, 29, 34, 35, 37, 65, 78, 81, 95]) (ng := []) (sy := []) rfl 300 26 _ _ _ _ h
theorem y_222_29 {m : z_M} {g : z_g} {Q : q_V → q_S → Prop} {a1 a2 s0 : Int} {da3 : q_V} (h :
    z_ok s0 ∧
    (s0 < (0 : Int) →
      z_C 224 [.inr (.inr 142)] (z_st m g) (fun v S => z_T 222 65 [.inr (.inr 131), .inl a1, .inl a2, da3] (q_push v [.inr (.inr 131)]) S Q)) ∧
    ((0 : Int) ≤ s0 →
      z_C 224 [.inr (.inr 143)] (z_st m g) (fun v S => z_T 222 34 [.inr (.inr 131), .inl a1, .inl a2, da3] (q_push v [.inr (.inr 131)]) S Q))) :
    z_T 222 29 [.inr (.inr 131), .inl a1, .inl a2, da3] [.inl s0] (z_st m g) Q := y_wp_T (cd := q_c222) (cs := [3, 5, 26, 29, 34, 35, 37, 65, 78, 81, 95]) (ng := []) (sy := []) rfl 300 29 _ _ _ _ h
theorem y_222_34 {m : z_M} {g : z_g} {Q : q_V → q_S → Prop} {a1 a2 s0 : Int} {da3 : q_V} (h :
    z_C 225 [.inr (.inr 131), .inl s0] (z_st m g) (fun v S => z_T 222 35 [.inr (.inr 131), .inl a1, .inl a2, da3] (q_push v []) S Q)) :
    z_T 222 34 [.inr (.inr 131), .inl a1, .inl a2, da3] [.inl s0, .inr (.inr 131)] (z_st m g) Q := y_wp_T (cd := q_c222) (cs := [3, 5, 26, 29, 34, 35, 37, 65, 78, 81, 95]) (ng := []) (sy := []) rfl 300 34 _ _ _ _ h
theorem y_222_35 {m : z_M} {g : z_g} {Q : q_V → q_S → Prop} {a1 a2 : Int} {da3 : q_V} (h :
    z_T 222 37 [.inr (.inr 131), .inl a1, .inl (0 : Int), da3] [] (z_st m g) Q) :
    z_T 222 35 [.inr (.inr 131), .inl a1, .inl a2, da3] [] (z_st m g) Q := y_wp_T (cd := q_c222) (cs := [3, 5, 26, 29, 34, 35, 37, 65, 78, 81, 95]) (ng := []) (sy := []) rfl 300 35 _ _ _ _ h
theorem y_222_37 {m : z_M} {g : z_g} {Q : q_V → q_S → Prop} {a1 a2 : Int} {da3 : q_V} (h :
    z_ok2 a2 (13 : Int) ∧
    ((13 : Int) ≤ a2 →
      z_T 222 26 [.inr (.inr 131), .inl a1, .inl a2, da3] [] (z_st m g) Q) ∧
    (a2 < (13 : Int) →
      z_in a2 13 ∧
      z_in a2 13 ∧
      z_in a2 13 ∧
      z_in a2 13 ∧
      z_T 222 37 [.inr (.inr 131), .inl a1, .inl (a2 + (1 : Int)), .inl (m 142 ((a2).toNat))] [] (z_st (q_upd (q_upd m 142 ((a2).toNat) (m 143 ((a2).toNat))) 143 ((a2).toNat) (m 142 ((a2).toNat))) g) Q)) :
    z_T 222 37 [.inr (.inr 131), .inl a1, .inl a2, da3] [] (z_st m g) Q := y_wp_T (cd := q_c222) (cs := [3, 5, 26, 29, 34, 35, 37, 65, 78, 81, 95]) (ng := []) (sy := []) rfl 300 37 _ _ _ _ h
theorem y_222_65 {m : z_M} {g : z_g} {Q : q_V → q_S → Prop} {a1 a2 s0 : Int} {da3 : q_V} (h :
    z_ok s0 ∧
    ((0 : Int) ≤ s0 →
      z_in s0 13 ∧
      z_C 226 [.inr (.inr 131), .inl (m 142 ((s0).toNat))] (z_st (q_upd m 131 15 s0) g) (fun v S => z_T 222 78 [.inr (.inr 131), .inl a1, .inl a2, da3] (q_push v []) S Q)) ∧
    (s0 < (0 : Int) →
      z_T 222 78 [.inr (.inr 131), .inl a1, .inl a2, da3] [.inl (0 : Int)] (z_st (q_upd m 131 15 s0) g) Q)) :
    z_T 222 65 [.inr (.inr 131), .inl a1, .inl a2, da3] [.inl s0, .inr (.inr 131)] (z_st m g) Q := y_wp_T (cd := q_c222) (cs := [3, 5, 26, 29, 34, 35, 37, 65, 78, 81, 95]) (ng := []) (sy := []) rfl 300 65 _ _ _ _ h
theorem y_222_78 {m : z_M} {g : z_g} {Q : q_V → q_S → Prop} {a1 a2 s0 : Int} {da3 : q_V} (h :
    z_T 222 81 [.inr (.inr 131), .inl a1, .inl s0, .inl (0 : Int)] [] (z_st m g) Q) :
    z_T 222 78 [.inr (.inr 131), .inl a1, .inl a2, da3] [.inl s0] (z_st m g) Q := y_wp_T (cd := q_c222) (cs := [3, 5, 26, 29, 34, 35, 37, 65, 78, 81, 95]) (ng := []) (sy := []) rfl 300 78 _ _ _ _ h
theorem y_222_81 {m : z_M} {g : z_g} {Q : q_V → q_S → Prop} {a1 a2 a3 : Int} (h :
    z_ok2 a3 (13 : Int) ∧
    ((13 : Int) ≤ a3 →
      Q q_dead (z_st m g)) ∧
    (a3 < (13 : Int) →
      z_in a3 13 ∧
      z_C 216 [.inr (.inr 131)] (z_st m g) (fun v S => z_T 222 95 [.inr (.inr 131), .inl a1, .inl a2, .inl a3] (q_push v [.inl ((m 142 ((a3).toNat)) * a2), .inl a3, .inr (.inr 142)]) S Q))) :
    z_T 222 81 [.inr (.inr 131), .inl a1, .inl a2, .inl a3] [] (z_st m g) Q := y_wp_T (cd := q_c222) (cs := [3, 5, 26, 29, 34, 35, 37, 65, 78, 81, 95]) (ng := []) (sy := []) rfl 300 81 _ _ _ _ h
theorem y_222_95 {m : z_M} {g : z_g} {Q : q_V → q_S → Prop} {a1 a2 a3 s0 s1 s2 : Int} (h :
    z_dv s1 s0 ∧
    z_in s2 13 ∧
    z_T 222 81 [.inr (.inr 131), .inl a1, .inl a2, .inl (a3 + (1 : Int))] [] (z_st (q_upd m 142 ((s2).toNat) (s1 % s0)) g) Q) :
    z_T 222 95 [.inr (.inr 131), .inl a1, .inl a2, .inl a3] [.inl s0, .inl s1, .inl s2, .inr (.inr 142)] (z_st m g) Q := y_wp_T (cd := q_c222) (cs := [3, 5, 26, 29, 34, 35, 37, 65, 78, 81, 95]) (ng := []) (sy := []) rfl 300 95 _ _ _ _ h
theorem y_223P : q_P 223 = (q_c223, 4) := rfl
theorem y_223 {m : z_M} {g : z_g} {Q : q_V → q_S → Prop} {a1 : Int} (h :
    z_C 210 [.inr (.inr 131), .inl a1] (z_st m g) (fun v S => z_T 223 3 [.inr (.inr 131), .inl a1, q_dead, q_dead] (q_push v []) S Q)) :
    z_C 223 [.inr (.inr 131), .inl a1] (z_st m g) Q := y_C_wp (cs := [3, 7, 10, 24, 27, 34, 56]) (ng := []) (sy := []) (n := 300) y_223P h
theorem y_223_3 {m : z_M} {g : z_g} {Q : q_V → q_S → Prop} {a1 s0 : Int} (h :
    z_C 196 [.inl s0] (z_st m g) (fun v S => z_T 223 7 [.inr (.inr 131), .inl a1, .inl s0, q_dead] (q_push v [.inr (.inr 131)]) S Q)) :
    z_T 223 3 [.inr (.inr 131), .inl a1, q_dead, q_dead] [.inl s0] (z_st m g) Q := y_wp_T (cd := q_c223) (cs := [3, 7, 10, 24, 27, 34, 56]) (ng := []) (sy := []) rfl 300 3 _ _ _ _ h
theorem y_223_7 {m : z_M} {g : z_g} {Q : q_V → q_S → Prop} {a1 a2 s0 : Int} (h :
    z_T 223 10 [.inr (.inr 131), .inl a1, .inl a2, .inl (0 : Int)] [] (z_st (q_upd m 131 16 s0) g) Q) :
    z_T 223 7 [.inr (.inr 131), .inl a1, .inl a2, q_dead] [.inl s0, .inr (.inr 131)] (z_st m g) Q := y_wp_T (cd := q_c223) (cs := [3, 7, 10, 24, 27, 34, 56]) (ng := []) (sy := []) rfl 300 7 _ _ _ _ h
theorem y_223_10 {m : z_M} {g : z_g} {Q : q_V → q_S → Prop} {a1 a2 a3 : Int} (h :
    z_ok2 a3 (13 : Int) ∧
    ((13 : Int) ≤ a3 →
      z_T 223 34 [.inr (.inr 131), .inl a1, .inl a2, .inl (0 : Int)] [] (z_st m g) Q) ∧
    (a3 < (13 : Int) →
      z_ok2 a3 (m 131 16) ∧
      ((m 131 16) < a3 →
        z_in a3 13 ∧
        z_T 223 10 [.inr (.inr 131), .inl a1, .inl a2, .inl (a3 + (1 : Int))] [] (z_st (q_upd m 140 ((a3).toNat) (0 : Int)) g) Q) ∧
      (a3 ≤ (m 131 16) →
        z_C 199 [.inl a2] (z_st m g) (fun v S => z_T 223 24 [.inr (.inr 131), .inl a1, .inl a2, .inl a3] (q_push v [.inl a1, .inr (.inr 131), .inl a3, .inr (.inr 140)]) S Q)))) :
    z_T 223 10 [.inr (.inr 131), .inl a1, .inl a2, .inl a3] [] (z_st m g) Q := y_wp_T (cd := q_c223) (cs := [3, 7, 10, 24, 27, 34, 56]) (ng := []) (sy := []) rfl 300 10 _ _ _ _ h
theorem y_223_24 {m : z_M} {g : z_g} {Q : q_V → q_S → Prop} {a1 a2 a3 s0 s1 s3 : Int} (h :
    z_C 214 [.inr (.inr 131), .inl s1, .inl (s0 + a3)] (z_st m g) (fun v S => z_T 223 27 [.inr (.inr 131), .inl a1, .inl a2, .inl a3] (q_push v [.inl s3, .inr (.inr 140)]) S Q)) :
    z_T 223 24 [.inr (.inr 131), .inl a1, .inl a2, .inl a3] [.inl s0, .inl s1, .inr (.inr 131), .inl s3, .inr (.inr 140)] (z_st m g) Q := y_wp_T (cd := q_c223) (cs := [3, 7, 10, 24, 27, 34, 56]) (ng := []) (sy := []) rfl 300 24 _ _ _ _ h
theorem y_223_27 {m : z_M} {g : z_g} {Q : q_V → q_S → Prop} {a1 a2 a3 s0 s1 : Int} (h :
    z_in s1 13 ∧
    z_T 223 10 [.inr (.inr 131), .inl a1, .inl a2, .inl (a3 + (1 : Int))] [] (z_st (q_upd m 140 ((s1).toNat) s0) g) Q) :
    z_T 223 27 [.inr (.inr 131), .inl a1, .inl a2, .inl a3] [.inl s0, .inl s1, .inr (.inr 140)] (z_st m g) Q := y_wp_T (cd := q_c223) (cs := [3, 7, 10, 24, 27, 34, 56]) (ng := []) (sy := []) rfl 300 27 _ _ _ _ h
theorem y_223_34 {m : z_M} {g : z_g} {Q : q_V → q_S → Prop} {a1 a2 a3 : Int} (h :
    z_ok2 a3 (13 : Int) ∧
    ((13 : Int) ≤ a3 →
      Q q_dead (z_st m g)) ∧
    (a3 < (13 : Int) →
      z_ok2 a3 (m 131 16) ∧
      ((m 131 16) ≤ a3 →
        z_in a3 13 ∧
        z_T 223 34 [.inr (.inr 131), .inl a1, .inl a2, .inl (a3 + (1 : Int))] [] (z_st (q_upd m 141 ((a3).toNat) (0 : Int)) g) Q) ∧
      (a3 < (m 131 16) →
        z_in (a3 + (1 : Int)) 13 ∧
        z_C 216 [.inr (.inr 131)] (z_st m g) (fun v S => z_T 223 56 [.inr (.inr 131), .inl a1, .inl a2, .inl a3] (q_push v [.inl ((a3 + (1 : Int)) * (m 140 ((a3 + (1 : Int)).toNat))), .inl a3, .inr (.inr 141)]) S Q)))) :
    z_T 223 34 [.inr (.inr 131), .inl a1, .inl a2, .inl a3] [] (z_st m g) Q := y_wp_T (cd := q_c223) (cs := [3, 7, 10, 24, 27, 34, 56]) (ng := []) (sy := []) rfl 300 34 _ _ _ _ h
theorem y_223_56 {m : z_M} {g : z_g} {Q : q_V → q_S → Prop} {a1 a2 a3 s0 s1 s2 : Int} (h :
    z_dv s1 s0 ∧
    z_in s2 13 ∧
    z_T 223 34 [.inr (.inr 131), .inl a1, .inl a2, .inl (a3 + (1 : Int))] [] (z_st (q_upd m 141 ((s2).toNat) (s1 % s0)) g) Q) :
    z_T 223 56 [.inr (.inr 131), .inl a1, .inl a2, .inl a3] [.inl s0, .inl s1, .inl s2, .inr (.inr 141)] (z_st m g) Q := y_wp_T (cd := q_c223) (cs := [3, 7, 10, 24, 27, 34, 56]) (ng := []) (sy := []) rfl 300 56 _ _ _ _ h
theorem y_224aP : q_P 224 = (q_c224, 2) := rfl
theorem y_224a {m : z_M} {g : z_g} {Q : q_V → q_S → Prop} (h :
    z_T 224 2 [.inr (.inr 142), .inl (12 : Int)] [] (z_st m g) Q) :
    z_C 224 [.inr (.inr 142)] (z_st m g) Q := y_C_wp (cs := [2]) (ng := []) (sy := []) (n := 300) y_224aP h
theorem y_224a_2 {m : z_M} {g : z_g} {Q : q_V → q_S → Prop} {a1 : Int} (h :
    z_ok a1 ∧
    (a1 < (0 : Int) →
      Q (.inl a1) (z_st m g)) ∧
    ((0 : Int) ≤ a1 →
      z_in a1 13 ∧
      z_ok (m 142 ((a1).toNat)) ∧
      (¬ (m 142 ((a1).toNat)) = (0 : Int) →
        Q (.inl a1) (z_st m g)) ∧
      ((m 142 ((a1).toNat)) = (0 : Int) →
        z_T 224 2 [.inr (.inr 142), .inl (a1 + (-1 : Int))] [] (z_st m g) Q))) :
    z_T 224 2 [.inr (.inr 142), .inl a1] [] (z_st m g) Q := y_wp_T (cd := q_c224) (cs := [2]) (ng := []) (sy := []) rfl 300 2 _ _ _ _ h
theorem y_224bP : q_P 224 = (q_c224, 2) := rfl
theorem y_224b {m : z_M} {g : z_g} {Q : q_V → q_S → Prop} (h :
    z_T 224 2 [.inr (.inr 143), .inl (12 : Int)] [] (z_st m g) Q) :
    z_C 224 [.inr (.inr 143)] (z_st m g) Q := y_C_wp (cs := [2]) (ng := []) (sy := []) (n := 300) y_224bP h
theorem y_224b_2 {m : z_M} {g : z_g} {Q : q_V → q_S → Prop} {a1 : Int} (h :
    z_ok a1 ∧
    (a1 < (0 : Int) →
      Q (.inl a1) (z_st m g)) ∧
    ((0 : Int) ≤ a1 →
      z_in a1 13 ∧
      z_ok (m 143 ((a1).toNat)) ∧
      (¬ (m 143 ((a1).toNat)) = (0 : Int) →
        Q (.inl a1) (z_st m g)) ∧
      ((m 143 ((a1).toNat)) = (0 : Int) →
        z_T 224 2 [.inr (.inr 143), .inl (a1 + (-1 : Int))] [] (z_st m g) Q))) :
    z_T 224 2 [.inr (.inr 143), .inl a1] [] (z_st m g) Q := y_wp_T (cd := q_c224) (cs := [2]) (ng := []) (sy := []) rfl 300 2 _ _ _ _ h
theorem y_225P : q_P 225 = (q_c225, 6) := rfl
theorem y_225 {m : z_M} {g : z_g} {Q : q_V → q_S → Prop} {a1 : Int} (h :
    z_in a1 13 ∧
    z_C 226 [.inr (.inr 131), .inl (m 143 ((a1).toNat))] (z_st m g) (fun v S => z_T 225 6 [.inr (.inr 131), .inl a1, q_dead, q_dead, q_dead, q_dead] (q_push v []) S Q)) :
    z_C 225 [.inr (.inr 131), .inl a1] (z_st m g) Q := y_C_wp (cs := [6, 9, 20, 24, 51]) (ng := []) (sy := []) (n := 300) y_225P h
theorem y_225_6 {m : z_M} {g : z_g} {Q : q_V → q_S → Prop} {a1 s0 : Int} (h :
    z_T 225 9 [.inr (.inr 131), .inl a1, .inl s0, .inl (12 : Int), q_dead, q_dead] [] (z_st m g) Q) :
    z_T 225 6 [.inr (.inr 131), .inl a1, q_dead, q_dead, q_dead, q_dead] [.inl s0] (z_st m g) Q := y_wp_T (cd := q_c225) (cs := [6, 9, 20, 24, 51]) (ng := []) (sy := []) rfl 300 6 _ _ _ _ h
theorem y_225_9 {m : z_M} {g : z_g} {Q : q_V → q_S → Prop} {a1 a2 a3 : Int} {da4 da5 : q_V} (h :
    z_ok2 a3 a1 ∧
    (a3 < a1 →
      Q q_dead (z_st m g)) ∧
    (a1 ≤ a3 →
      z_in a3 13 ∧
      z_C 216 [.inr (.inr 131)] (z_st m g) (fun v S => z_T 225 20 [.inr (.inr 131), .inl a1, .inl a2, .inl a3, da4, da5] (q_push v [.inl ((m 142 ((a3).toNat)) * a2)]) S Q))) :
    z_T 225 9 [.inr (.inr 131), .inl a1, .inl a2, .inl a3, da4, da5] [] (z_st m g) Q := y_wp_T (cd := q_c225) (cs := [6, 9, 20, 24, 51]) (ng := []) (sy := []) rfl 300 9 _ _ _ _ h
theorem y_225_20 {m : z_M} {g : z_g} {Q : q_V → q_S → Prop} {a1 a2 a3 s0 s1 : Int} {da4 da5 : q_V} (h :
    z_dv s1 s0 ∧
    z_T 225 24 [.inr (.inr 131), .inl a1, .inl a2, .inl a3, .inl (s1 % s0), .inl (0 : Int)] [] (z_st m g) Q) :
    z_T 225 20 [.inr (.inr 131), .inl a1, .inl a2, .inl a3, da4, da5] [.inl s0, .inl s1] (z_st m g) Q := y_wp_T (cd := q_c225) (cs := [6, 9, 20, 24, 51]) (ng := []) (sy := []) rfl 300 20 _ _ _ _ h
theorem y_225_24 {m : z_M} {g : z_g} {Q : q_V → q_S → Prop} {a1 a2 a3 a4 a5 : Int} (h :
    z_ok2 a5 a1 ∧
    (a1 < a5 →
      z_T 225 9 [.inr (.inr 131), .inl a1, .inl a2, .inl (a3 + (-1 : Int)), .inl a4, .inl a5] [] (z_st m g) Q) ∧
    (a5 ≤ a1 →
      z_in ((a3 - a1) + a5) 13 ∧
      z_in a5 13 ∧
      z_C 215 [.inr (.inr 131), .inl ((m 142 (((a3 - a1) + a5).toNat)) - (a4 * (m 143 ((a5).toNat))))] (z_st m g) (fun v S => z_T 225 51 [.inr (.inr 131), .inl a1, .inl a2, .inl a3, .inl a4, .inl a5] (q_push v [.inl ((a3 - a1) + a5), .inr (.inr 142)]) S Q))) :
    z_T 225 24 [.inr (.inr 131), .inl a1, .inl a2, .inl a3, .inl a4, .inl a5] [] (z_st m g) Q := y_wp_T (cd := q_c225) (cs := [6, 9, 20, 24, 51]) (ng := []) (sy := []) rfl 300 24 _ _ _ _ h
theorem y_225_51 {m : z_M} {g : z_g} {Q : q_V → q_S → Prop} {a1 a2 a3 a4 a5 s0 s1 : Int} (h :
    z_in s1 13 ∧
    z_T 225 24 [.inr (.inr 131), .inl a1, .inl a2, .inl a3, .inl a4, .inl (a5 + (1 : Int))] [] (z_st (q_upd m 142 ((s1).toNat) s0) g) Q) :
    z_T 225 51 [.inr (.inr 131), .inl a1, .inl a2, .inl a3, .inl a4, .inl a5] [.inl s0, .inl s1, .inr (.inr 142)] (z_st m g) Q := y_wp_T (cd := q_c225) (cs := [6, 9, 20, 24, 51]) (ng := []) (sy := []) rfl 300 51 _ _ _ _ h
theorem y_226P : q_P 226 = (q_c226, 2) := rfl
theorem y_226 {m : z_M} {g : z_g} {Q : q_V → q_S → Prop} {a1 : Int} (h :
    z_C 216 [.inr (.inr 131)] (z_st m g) (fun v S => z_T 226 4 [.inr (.inr 131), .inl a1] (q_push v [.inl a1, .inr (.inr 131)]) S Q)) :
    z_C 226 [.inr (.inr 131), .inl a1] (z_st m g) Q := y_C_wp (cs := [4, 7]) (ng := []) (sy := []) (n := 300) y_226P h
theorem y_226_4 {m : z_M} {g : z_g} {Q : q_V → q_S → Prop} {a1 s0 s1 : Int} (h :
    z_C 227 [.inr (.inr 131), .inl s1, .inl (s0 - (2 : Int))] (z_st m g) (fun v S => z_T 226 7 [.inr (.inr 131), .inl a1] (q_push v []) S Q)) :
    z_T 226 4 [.inr (.inr 131), .inl a1] [.inl s0, .inl s1, .inr (.inr 131)] (z_st m g) Q := y_wp_T (cd := q_c226) (cs := [4, 7]) (ng := []) (sy := []) rfl 300 4 _ _ _ _ h
theorem y_226_7 {m : z_M} {g : z_g} {Q : q_V → q_S → Prop} {a1 s0 : Int} (h :
    Q (.inl s0) (z_st m g)) :
    z_T 226 7 [.inr (.inr 131), .inl a1] [.inl s0] (z_st m g) Q := y_wp_T (cd := q_c226) (cs := [4, 7]) (ng := []) (sy := []) rfl 300 7 _ _ _ _ h
theorem y_227P : q_P 227 = (q_c227, 5) := rfl
theorem y_227 {m : z_M} {g : z_g} {Q : q_V → q_S → Prop} {a1 a2 : Int} (h :
    z_T 227 4 [.inr (.inr 131), .inl a1, .inl a2, .inl (1 : Int), .inl (0 : Int)] [] (z_st m g) Q) :
    z_C 227 [.inr (.inr 131), .inl a1, .inl a2] (z_st m g) Q := y_C_wp (cs := [4, 11, 14]) (ng := []) (sy := []) (n := 300) y_227P h
theorem y_227_4 {m : z_M} {g : z_g} {Q : q_V → q_S → Prop} {a1 a2 a3 a4 : Int} (h :
    z_ok2 a4 a2 ∧
    (a2 ≤ a4 →
      Q (.inl a3) (z_st m g)) ∧
    (a4 < a2 →
      z_C 215 [.inr (.inr 131), .inl a1] (z_st m g) (fun v S => z_T 227 11 [.inr (.inr 131), .inl a1, .inl a2, .inl a3, .inl a4] (q_push v [.inl a3]) S Q))) :
    z_T 227 4 [.inr (.inr 131), .inl a1, .inl a2, .inl a3, .inl a4] [] (z_st m g) Q := y_wp_T (cd := q_c227) (cs := [4, 11, 14]) (ng := []) (sy := []) rfl 300 4 _ _ _ _ h
theorem y_227_11 {m : z_M} {g : z_g} {Q : q_V → q_S → Prop} {a1 a2 a3 a4 s0 s1 : Int} (h :
    z_C 216 [.inr (.inr 131)] (z_st m g) (fun v S => z_T 227 14 [.inr (.inr 131), .inl a1, .inl a2, .inl a3, .inl a4] (q_push v [.inl (s1 * s0)]) S Q)) :
    z_T 227 11 [.inr (.inr 131), .inl a1, .inl a2, .inl a3, .inl a4] [.inl s0, .inl s1] (z_st m g) Q := y_wp_T (cd := q_c227) (cs := [4, 11, 14]) (ng := []) (sy := []) rfl 300 11 _ _ _ _ h
theorem y_227_14 {m : z_M} {g : z_g} {Q : q_V → q_S → Prop} {a1 a2 a3 a4 s0 s1 : Int} (h :
    z_dv s1 s0 ∧
    z_T 227 4 [.inr (.inr 131), .inl a1, .inl a2, .inl (s1 % s0), .inl (a4 + (1 : Int))] [] (z_st m g) Q) :
    z_T 227 14 [.inr (.inr 131), .inl a1, .inl a2, .inl a3, .inl a4] [.inl s0, .inl s1] (z_st m g) Q := y_wp_T (cd := q_c227) (cs := [4, 11, 14]) (ng := []) (sy := []) rfl 300 14 _ _ _ _ h
theorem y_228P : q_P 228 = (q_c228, 4) := rfl
theorem y_228 {m : z_M} {g : z_g} {Q : q_V → q_S → Prop} {a1 a2 a3 : Int} (h :
    z_C 209 [.inr (.inr 131), .inl a1] (z_st m g) (fun v S => z_T 228 3 [.inr (.inr 131), .inl a1, .inl a2, .inl a3] (q_push v []) S Q)) :
    z_C 228 [.inr (.inr 131), .inl a1, .inl a2, .inl a3] (z_st m g) Q := y_C_wp (cs := [3, 7, 9, 14, 32]) (ng := []) (sy := []) (n := 300) y_228P h
theorem y_228_3 {m : z_M} {g : z_g} {Q : q_V → q_S → Prop} {a1 a2 a3 s0 : Int} (h :
    z_ok s0 ∧
    (s0 = (0 : Int) →
      Q (.inl (-1 : Int)) (z_st m g)) ∧
    (¬ s0 = (0 : Int) →
      z_C 210 [.inr (.inr 131), .inl a1] (z_st m g) (fun v S => z_T 228 7 [.inr (.inr 131), .inl a1, .inl a2, .inl a3] (q_push v []) S Q))) :
    z_T 228 3 [.inr (.inr 131), .inl a1, .inl a2, .inl a3] [.inl s0] (z_st m g) Q := y_wp_T (cd := q_c228) (cs := [3, 7, 9, 14, 32]) (ng := []) (sy := []) rfl 300 3 _ _ _ _ h
theorem y_228_7 {m : z_M} {g : z_g} {Q : q_V → q_S → Prop} {a1 a2 a3 s0 : Int} (h :
    z_C 204 [.inl s0, .inl a2] (z_st m g) (fun v S => z_T 228 9 [.inr (.inr 131), .inl a1, .inl a2, .inl a3] (q_push v []) S Q)) :
    z_T 228 7 [.inr (.inr 131), .inl a1, .inl a2, .inl a3] [.inl s0] (z_st m g) Q := y_wp_T (cd := q_c228) (cs := [3, 7, 9, 14, 32]) (ng := []) (sy := []) rfl 300 7 _ _ _ _ h
theorem y_228_9 {m : z_M} {g : z_g} {Q : q_V → q_S → Prop} {a1 a2 a3 s0 : Int} (h :
    z_ok s0 ∧
    (s0 = (0 : Int) →
      Q (.inl (-1 : Int)) (z_st m g)) ∧
    (¬ s0 = (0 : Int) →
      z_C 188 [.inl a3, .inl (0 : Int), .inl (1 : Int)] (z_st m g) (fun v S => z_T 228 14 [.inr (.inr 131), .inl a1, .inl a2, .inl a3] (q_push v []) S Q))) :
    z_T 228 9 [.inr (.inr 131), .inl a1, .inl a2, .inl a3] [.inl s0] (z_st m g) Q := y_wp_T (cd := q_c228) (cs := [3, 7, 9, 14, 32]) (ng := []) (sy := []) rfl 300 9 _ _ _ _ h
theorem y_228_14 {m : z_M} {g : z_g} {Q : q_V → q_S → Prop} {a1 a2 a3 s0 : Int} (h :
    z_ok s0 ∧
    (¬ s0 = (0 : Int) →
      z_ok a3 ∧
      (¬ a3 = (0 : Int) →
        z_C 214 [.inr (.inr 131), .inl a1, .inl a2] (z_st m g) (fun v S => z_T 228 32 [.inr (.inr 131), .inl a1, .inl a2, .inl a3] (q_push v []) S Q)) ∧
      (a3 = (0 : Int) →
        z_in (((13 : Int) * a1) + a2) 78 ∧
        z_T 228 32 [.inr (.inr 131), .inl a1, .inl a2, .inl a3] [.inl (m 137 ((((13 : Int) * a1) + a2).toNat))] (z_st m g) Q)) ∧
    (s0 = (0 : Int) →
      Q (.inl (-1 : Int)) (z_st m g))) :
    z_T 228 14 [.inr (.inr 131), .inl a1, .inl a2, .inl a3] [.inl s0] (z_st m g) Q := y_wp_T (cd := q_c228) (cs := [3, 7, 9, 14, 32]) (ng := []) (sy := []) rfl 300 14 _ _ _ _ h
theorem y_228_32 {m : z_M} {g : z_g} {Q : q_V → q_S → Prop} {a1 a2 a3 s0 : Int} (h :
    Q (.inl s0) (z_st m g)) :
    z_T 228 32 [.inr (.inr 131), .inl a1, .inl a2, .inl a3] [.inl s0] (z_st m g) Q := y_wp_T (cd := q_c228) (cs := [3, 7, 9, 14, 32]) (ng := []) (sy := []) rfl 300 32 _ _ _ _ h
theorem y_229P : q_P 229 = (q_c229, 4) := rfl
theorem y_229 {m : z_M} {g : z_g} {Q : q_V → q_S → Prop} {a1 a2 a3 : Int} (h :
    z_C 209 [.inr (.inr 131), .inl a1] (z_st m g) (fun v S => z_T 229 3 [.inr (.inr 131), .inl a1, .inl a2, .inl a3] (q_push v []) S Q)) :
    z_C 229 [.inr (.inr 131), .inl a1, .inl a2, .inl a3] (z_st m g) Q := y_C_wp (cs := [3, 8, 18, 21, 27, 32, 39, 43]) (ng := []) (sy := []) (n := 300) y_229P h
theorem y_229_3 {m : z_M} {g : z_g} {Q : q_V → q_S → Prop} {a1 a2 a3 s0 : Int} (h :
    z_ok s0 ∧
    (s0 = (0 : Int) →
      Q (.inl (-1 : Int)) (z_st m g)) ∧
    (¬ s0 = (0 : Int) →
      z_C 188 [.inl a3, .inl (0 : Int), .inl (2 : Int)] (z_st m g) (fun v S => z_T 229 8 [.inr (.inr 131), .inl a1, .inl a2, .inl a3] (q_push v []) S Q))) :
    z_T 229 3 [.inr (.inr 131), .inl a1, .inl a2, .inl a3] [.inl s0] (z_st m g) Q := y_wp_T (cd := q_c229) (cs := [3, 8, 18, 21, 27, 32, 39, 43]) (ng := []) (sy := []) rfl 300 3 _ _ _ _ h
theorem y_229_8 {m : z_M} {g : z_g} {Q : q_V → q_S → Prop} {a1 a2 a3 s0 : Int} (h :
    z_ok s0 ∧
    (s0 = (0 : Int) →
      Q (.inl (-1 : Int)) (z_st m g)) ∧
    (¬ s0 = (0 : Int) →
      z_ok2 a3 (2 : Int) ∧
      (¬ a3 = (2 : Int) →
        z_C 216 [.inr (.inr 131)] (z_st m g) (fun v S => z_T 229 18 [.inr (.inr 131), .inl a1, .inl a2, .inl a3] (q_push v [.inl (0 : Int), .inl a2]) S Q)) ∧
      (a3 = (2 : Int) →
        z_C 216 [.inr (.inr 131)] (z_st m g) (fun v S => z_T 229 18 [.inr (.inr 131), .inl a1, .inl a2, .inl a3] (q_push v [.inl (1 : Int), .inl a2]) S Q)))) :
    z_T 229 8 [.inr (.inr 131), .inl a1, .inl a2, .inl a3] [.inl s0] (z_st m g) Q := y_wp_T (cd := q_c229) (cs := [3, 8, 18, 21, 27, 32, 39, 43]) (ng := []) (sy := []) rfl 300 8 _ _ _ _ h
theorem y_229_18 {m : z_M} {g : z_g} {Q : q_V → q_S → Prop} {a1 a2 a3 s0 s1 s2 : Int} (h :
    z_C 188 [.inl s2, .inl s1, .inl (s0 - (1 : Int))] (z_st m g) (fun v S => z_T 229 21 [.inr (.inr 131), .inl a1, .inl a2, .inl a3] (q_push v []) S Q)) :
    z_T 229 18 [.inr (.inr 131), .inl a1, .inl a2, .inl a3] [.inl s0, .inl s1, .inl s2] (z_st m g) Q := y_wp_T (cd := q_c229) (cs := [3, 8, 18, 21, 27, 32, 39, 43]) (ng := []) (sy := []) rfl 300 18 _ _ _ _ h
theorem y_229_21 {m : z_M} {g : z_g} {Q : q_V → q_S → Prop} {a1 a2 a3 s0 : Int} (h :
    z_ok s0 ∧
    (¬ s0 = (0 : Int) →
      z_C 213 [.inr (.inr 131), .inl a1] (z_st m g) (fun v S => z_T 229 27 [.inr (.inr 131), .inl a1, .inl a2, .inl a3] (q_push v []) S Q)) ∧
    (s0 = (0 : Int) →
      Q (.inl (-1 : Int)) (z_st m g))) :
    z_T 229 21 [.inr (.inr 131), .inl a1, .inl a2, .inl a3] [.inl s0] (z_st m g) Q := y_wp_T (cd := q_c229) (cs := [3, 8, 18, 21, 27, 32, 39, 43]) (ng := []) (sy := []) rfl 300 21 _ _ _ _ h
theorem y_229_27 {m : z_M} {g : z_g} {Q : q_V → q_S → Prop} {a1 a2 a3 : Int} (h :
    z_ok a3 ∧
    (¬ a3 = (0 : Int) →
      z_ok2 a3 (1 : Int) ∧
      (¬ a3 = (1 : Int) →
        z_C 218 [.inr (.inr 131), .inl a2] (z_st m g) (fun v S => z_T 229 43 [.inr (.inr 131), .inl a1, .inl a2, .inl a3] (q_push v []) S Q)) ∧
      (a3 = (1 : Int) →
        z_C 231 [.inr (.inr 131), .inl a2] (z_st m g) (fun v S => z_T 229 39 [.inr (.inr 131), .inl a1, .inl a2, .inl a3] (q_push v []) S Q))) ∧
    (a3 = (0 : Int) →
      z_C 230 [.inr (.inr 131), .inl a2] (z_st m g) (fun v S => z_T 229 32 [.inr (.inr 131), .inl a1, .inl a2, .inl a3] (q_push v []) S Q))) :
    z_T 229 27 [.inr (.inr 131), .inl a1, .inl a2, .inl a3] [] (z_st m g) Q := y_wp_T (cd := q_c229) (cs := [3, 8, 18, 21, 27, 32, 39, 43]) (ng := []) (sy := []) rfl 300 27 _ _ _ _ h
theorem y_229_32 {m : z_M} {g : z_g} {Q : q_V → q_S → Prop} {a1 a2 a3 s0 : Int} (h :
    z_T 229 43 [.inr (.inr 131), .inl a1, .inl a2, .inl a3] [.inl s0] (z_st m g) Q) :
    z_T 229 32 [.inr (.inr 131), .inl a1, .inl a2, .inl a3] [.inl s0] (z_st m g) Q := y_wp_T (cd := q_c229) (cs := [3, 8, 18, 21, 27, 32, 39, 43]) (ng := []) (sy := []) rfl 300 32 _ _ _ _ h
theorem y_229_39 {m : z_M} {g : z_g} {Q : q_V → q_S → Prop} {a1 a2 a3 s0 : Int} (h :
    z_T 229 43 [.inr (.inr 131), .inl a1, .inl a2, .inl a3] [.inl s0] (z_st m g) Q) :
    z_T 229 39 [.inr (.inr 131), .inl a1, .inl a2, .inl a3] [.inl s0] (z_st m g) Q := y_wp_T (cd := q_c229) (cs := [3, 8, 18, 21, 27, 32, 39, 43]) (ng := []) (sy := []) rfl 300 39 _ _ _ _ h
theorem y_229_43 {m : z_M} {g : z_g} {Q : q_V → q_S → Prop} {a1 a2 a3 s0 : Int} (h :
    Q (.inl s0) (z_st m g)) :
    z_T 229 43 [.inr (.inr 131), .inl a1, .inl a2, .inl a3] [.inl s0] (z_st m g) Q := y_wp_T (cd := q_c229) (cs := [3, 8, 18, 21, 27, 32, 39, 43]) (ng := []) (sy := []) rfl 300 43 _ _ _ _ h
theorem y_230P : q_P 230 = (q_c230, 4) := rfl
theorem y_230 {m : z_M} {g : z_g} {Q : q_V → q_S → Prop} {a1 : Int} (h :
    z_T 230 4 [.inr (.inr 131), .inl a1, .inl (0 : Int), .inl (12 : Int)] [] (z_st m g) Q) :
    z_C 230 [.inr (.inr 131), .inl a1] (z_st m g) Q := y_C_wp (cs := [4, 16]) (ng := []) (sy := []) (n := 300) y_230P h
theorem y_230_4 {m : z_M} {g : z_g} {Q : q_V → q_S → Prop} {a1 a2 a3 : Int} (h :
    z_ok a3 ∧
    (a3 < (0 : Int) →
      Q (.inl a2) (z_st m g)) ∧
    ((0 : Int) ≤ a3 →
      z_in a3 13 ∧
      z_C 216 [.inr (.inr 131)] (z_st m g) (fun v S => z_T 230 16 [.inr (.inr 131), .inl a1, .inl a2, .inl a3] (q_push v [.inl ((a2 * a1) + (m 138 ((a3).toNat)))]) S Q))) :
    z_T 230 4 [.inr (.inr 131), .inl a1, .inl a2, .inl a3] [] (z_st m g) Q := y_wp_T (cd := q_c230) (cs := [4, 16]) (ng := []) (sy := []) rfl 300 4 _ _ _ _ h
theorem y_230_16 {m : z_M} {g : z_g} {Q : q_V → q_S → Prop} {a1 a2 a3 s0 s1 : Int} (h :
    z_dv s1 s0 ∧
    z_T 230 4 [.inr (.inr 131), .inl a1, .inl (s1 % s0), .inl (a3 + (-1 : Int))] [] (z_st m g) Q) :
    z_T 230 16 [.inr (.inr 131), .inl a1, .inl a2, .inl a3] [.inl s0, .inl s1] (z_st m g) Q := y_wp_T (cd := q_c230) (cs := [4, 16]) (ng := []) (sy := []) rfl 300 16 _ _ _ _ h
theorem y_231P : q_P 231 = (q_c231, 4) := rfl
theorem y_231 {m : z_M} {g : z_g} {Q : q_V → q_S → Prop} {a1 : Int} (h :
    z_T 231 4 [.inr (.inr 131), .inl a1, .inl (0 : Int), .inl (12 : Int)] [] (z_st m g) Q) :
    z_C 231 [.inr (.inr 131), .inl a1] (z_st m g) Q := y_C_wp (cs := [4, 18]) (ng := []) (sy := []) (n := 300) y_231P h
theorem y_231_4 {m : z_M} {g : z_g} {Q : q_V → q_S → Prop} {a1 a2 a3 : Int} (h :
    z_ok a3 ∧
    (a3 ≤ (0 : Int) →
      Q (.inl a2) (z_st m g)) ∧
    ((0 : Int) < a3 →
      z_in a3 13 ∧
      z_C 216 [.inr (.inr 131)] (z_st m g) (fun v S => z_T 231 18 [.inr (.inr 131), .inl a1, .inl a2, .inl a3] (q_push v [.inl ((a2 * a1) + ((m 138 ((a3).toNat)) * a3))]) S Q))) :
    z_T 231 4 [.inr (.inr 131), .inl a1, .inl a2, .inl a3] [] (z_st m g) Q := y_wp_T (cd := q_c231) (cs := [4, 18]) (ng := []) (sy := []) rfl 300 4 _ _ _ _ h
theorem y_231_18 {m : z_M} {g : z_g} {Q : q_V → q_S → Prop} {a1 a2 a3 s0 s1 : Int} (h :
    z_dv s1 s0 ∧
    z_T 231 4 [.inr (.inr 131), .inl a1, .inl (s1 % s0), .inl (a3 + (-1 : Int))] [] (z_st m g) Q) :
    z_T 231 18 [.inr (.inr 131), .inl a1, .inl a2, .inl a3] [.inl s0, .inl s1] (z_st m g) Q := y_wp_T (cd := q_c231) (cs := [4, 18]) (ng := []) (sy := []) rfl 300 18 _ _ _ _ h
theorem y_232P : q_P 232 = (q_c232, 3) := rfl
theorem y_232 {m : z_M} {g : z_g} {Q : q_V → q_S → Prop} {a1 a2 : Int} (h :
    z_C 209 [.inr (.inr 131), .inl a1] (z_st m g) (fun v S => z_T 232 3 [.inr (.inr 131), .inl a1, .inl a2] (q_push v []) S Q)) :
    z_C 232 [.inr (.inr 131), .inl a1, .inl a2] (z_st m g) Q := y_C_wp (cs := [3, 11]) (ng := []) (sy := []) (n := 300) y_232P h
theorem y_232_3 {m : z_M} {g : z_g} {Q : q_V → q_S → Prop} {a1 a2 s0 : Int} (h :
    z_ok s0 ∧
    (s0 = (0 : Int) →
      Q (.inl (-1 : Int)) (z_st m g)) ∧
    (¬ s0 = (0 : Int) →
      z_ok a2 ∧
      ((0 : Int) ≤ a2 →
        z_C 222 [.inr (.inr 131), .inl a1] (z_st m g) (fun v S => z_T 232 11 [.inr (.inr 131), .inl a1, .inl a2] (q_push v []) S Q)) ∧
      (a2 < (0 : Int) →
        Q (.inl (-1 : Int)) (z_st m g)))) :
    z_T 232 3 [.inr (.inr 131), .inl a1, .inl a2] [.inl s0] (z_st m g) Q := y_wp_T (cd := q_c232) (cs := [3, 11]) (ng := []) (sy := []) rfl 300 3 _ _ _ _ h
theorem y_232_11 {m : z_M} {g : z_g} {Q : q_V → q_S → Prop} {a1 a2 : Int} (h :
    z_ok (m 131 15) ∧
    ((0 : Int) ≤ (m 131 15) →
      z_ok2 a2 (12 : Int) ∧
      (a2 ≤ (12 : Int) →
        z_in a2 13 ∧
        Q (.inl (m 142 ((a2).toNat))) (z_st m g)) ∧
      ((12 : Int) < a2 →
        Q (.inl (0 : Int)) (z_st m g))) ∧
    ((m 131 15) < (0 : Int) →
      Q (.inl (-5 : Int)) (z_st m g))) :
    z_T 232 11 [.inr (.inr 131), .inl a1, .inl a2] [] (z_st m g) Q := y_wp_T (cd := q_c232) (cs := [3, 11]) (ng := []) (sy := []) rfl 300 11 _ _ _ _ h
theorem y_233P : q_P 233 = (q_c233, 4) := rfl
theorem y_233 {m : z_M} {g : z_g} {Q : q_V → q_S → Prop} {a1 a2 a3 : Int} (h :
    z_C 209 [.inr (.inr 131), .inl a1] (z_st m g) (fun v S => z_T 233 3 [.inr (.inr 131), .inl a1, .inl a2, .inl a3] (q_push v []) S Q)) :
    z_C 233 [.inr (.inr 131), .inl a1, .inl a2, .inl a3] (z_st m g) Q := y_C_wp (cs := [3, 9, 16, 24]) (ng := []) (sy := []) (n := 300) y_233P h
theorem y_233_3 {m : z_M} {g : z_g} {Q : q_V → q_S → Prop} {a1 a2 a3 s0 : Int} (h :
    z_ok s0 ∧
    (¬ s0 = (0 : Int) →
      z_C 234 [.inr (.inr 131), .inl a1] (z_st m g) (fun v S => z_T 233 9 [.inr (.inr 131), .inl a1, .inl a2, .inl a3] (q_push v []) S Q)) ∧
    (s0 = (0 : Int) →
      Q (.inl (-1 : Int)) (z_st m g))) :
    z_T 233 3 [.inr (.inr 131), .inl a1, .inl a2, .inl a3] [.inl s0] (z_st m g) Q := y_wp_T (cd := q_c233) (cs := [3, 9, 16, 24]) (ng := []) (sy := []) rfl 300 3 _ _ _ _ h
theorem y_233_9 {m : z_M} {g : z_g} {Q : q_V → q_S → Prop} {a1 a2 a3 : Int} (h :
    z_C 188 [.inl a2, .inl (0 : Int), .inl ((m 131 18) - (1 : Int))] (z_st m g) (fun v S => z_T 233 16 [.inr (.inr 131), .inl a1, .inl a2, .inl a3] (q_push v []) S Q)) :
    z_T 233 9 [.inr (.inr 131), .inl a1, .inl a2, .inl a3] [] (z_st m g) Q := y_wp_T (cd := q_c233) (cs := [3, 9, 16, 24]) (ng := []) (sy := []) rfl 300 9 _ _ _ _ h
theorem y_233_16 {m : z_M} {g : z_g} {Q : q_V → q_S → Prop} {a1 a2 a3 s0 : Int} (h :
    z_ok s0 ∧
    (s0 = (0 : Int) →
      Q (.inl (-1 : Int)) (z_st m g)) ∧
    (¬ s0 = (0 : Int) →
      z_C 188 [.inl a3, .inl (0 : Int), .inl ((m 131 18) - (1 : Int))] (z_st m g) (fun v S => z_T 233 24 [.inr (.inr 131), .inl a1, .inl a2, .inl a3] (q_push v []) S Q))) :
    z_T 233 16 [.inr (.inr 131), .inl a1, .inl a2, .inl a3] [.inl s0] (z_st m g) Q := y_wp_T (cd := q_c233) (cs := [3, 9, 16, 24]) (ng := []) (sy := []) rfl 300 16 _ _ _ _ h
theorem y_233_24 {m : z_M} {g : z_g} {Q : q_V → q_S → Prop} {a1 a2 a3 s0 : Int} (h :
    z_ok s0 ∧
    (s0 = (0 : Int) →
      Q (.inl (-1 : Int)) (z_st m g)) ∧
    (¬ s0 = (0 : Int) →
      z_in (((23 : Int) * a2) + a3) 529 ∧
      Q (.inl (m 144 ((((23 : Int) * a2) + a3).toNat))) (z_st m g))) :
    z_T 233 24 [.inr (.inr 131), .inl a1, .inl a2, .inl a3] [.inl s0] (z_st m g) Q := y_wp_T (cd := q_c233) (cs := [3, 9, 16, 24]) (ng := []) (sy := []) rfl 300 24 _ _ _ _ h
theorem y_234P : q_P 234 = (q_c234, 8) := rfl
theorem y_234 {m : z_M} {g : z_g} {Q : q_V → q_S → Prop} {a1 : Int} (h :
    z_C 223 [.inr (.inr 131), .inl a1] (z_st m g) (fun v S => z_T 234 3 [.inr (.inr 131), .inl a1, q_dead, q_dead, q_dead, q_dead, q_dead, q_dead] (q_push v []) S Q)) :
    z_C 234 [.inr (.inr 131), .inl a1] (z_st m g) Q := y_C_wp (cs := [3, 13, 50, 71]) (ng := []) (sy := []) (n := 300) y_234P h
theorem y_234_3 {m : z_M} {g : z_g} {Q : q_V → q_S → Prop} {a1 : Int} (h :
    z_T 234 13 [.inr (.inr 131), .inl a1, .inl (0 : Int), q_dead, q_dead, q_dead, q_dead, q_dead] [] (z_st (q_upd m 131 18 (((2 : Int) * (m 131 16)) - (1 : Int))) g) Q) :
    z_T 234 3 [.inr (.inr 131), .inl a1, q_dead, q_dead, q_dead, q_dead, q_dead, q_dead] [] (z_st m g) Q := y_wp_T (cd := q_c234) (cs := [3, 13, 50, 71]) (ng := []) (sy := []) rfl 300 3 _ _ _ _ h
theorem y_234_13 {m : z_M} {g : z_g} {Q : q_V → q_S → Prop} {a1 a2 : Int} {da3 da4 da5 da6 da7 : q_V} (h :
    z_ok2 a2 (m 131 18) ∧
    ((m 131 18) ≤ a2 →
      Q q_dead (z_st m g)) ∧
    (a2 < (m 131 18) →
      z_ok2 a2 ((m 131 16) - (1 : Int)) ∧
      (((m 131 16) - (1 : Int)) ≤ a2 →
        z_ok (0 : Int) ∧
        ((0 : Int) = (0 : Int) →
          z_ok (0 : Int) ∧
          ((0 : Int) = (0 : Int) →
            z_T 234 50 [.inr (.inr 131), .inl a1, .inl a2, .inl (0 : Int), .inl ((a2 - (m 131 16)) + (1 : Int)), .inl ((m 131 16) - (1 : Int)), .inl (0 : Int), da7] [] (z_st m g) Q) ∧
          (¬ (0 : Int) = (0 : Int) →
            z_T 234 50 [.inr (.inr 131), .inl a1, .inl a2, .inl (0 : Int), .inl ((a2 - (m 131 16)) + (1 : Int)), .inl (m 131 16), .inl (0 : Int), da7] [] (z_st m g) Q)) ∧
        (¬ (0 : Int) = (0 : Int) →
          z_ok (0 : Int) ∧
          ((0 : Int) = (0 : Int) →
            z_T 234 50 [.inr (.inr 131), .inl a1, .inl a2, .inl (0 : Int), .inl a2, .inl ((m 131 16) - (1 : Int)), .inl (0 : Int), da7] [] (z_st m g) Q) ∧
          (¬ (0 : Int) = (0 : Int) →
            z_T 234 50 [.inr (.inr 131), .inl a1, .inl a2, .inl (0 : Int), .inl a2, .inl (m 131 16), .inl (0 : Int), da7] [] (z_st m g) Q))) ∧
      (a2 < ((m 131 16) - (1 : Int)) →
        z_ok (1 : Int) ∧
        ((1 : Int) = (0 : Int) →
          z_ok (1 : Int) ∧
          ((1 : Int) = (0 : Int) →
            z_T 234 50 [.inr (.inr 131), .inl a1, .inl a2, .inl (1 : Int), .inl ((a2 - (m 131 16)) + (1 : Int)), .inl ((m 131 16) - (1 : Int)), .inl (0 : Int), da7] [] (z_st m g) Q) ∧
          (¬ (1 : Int) = (0 : Int) →
            z_T 234 50 [.inr (.inr 131), .inl a1, .inl a2, .inl (1 : Int), .inl ((a2 - (m 131 16)) + (1 : Int)), .inl (m 131 16), .inl (0 : Int), da7] [] (z_st m g) Q)) ∧
        (¬ (1 : Int) = (0 : Int) →
          z_ok (1 : Int) ∧
          ((1 : Int) = (0 : Int) →
            z_T 234 50 [.inr (.inr 131), .inl a1, .inl a2, .inl (1 : Int), .inl a2, .inl ((m 131 16) - (1 : Int)), .inl (0 : Int), da7] [] (z_st m g) Q) ∧
          (¬ (1 : Int) = (0 : Int) →
            z_T 234 50 [.inr (.inr 131), .inl a1, .inl a2, .inl (1 : Int), .inl a2, .inl (m 131 16), .inl (0 : Int), da7] [] (z_st m g) Q))))) :
    z_T 234 13 [.inr (.inr 131), .inl a1, .inl a2, da3, da4, da5, da6, da7] [] (z_st m g) Q := y_wp_T (cd := q_c234) (cs := [3, 13, 50, 71]) (ng := []) (sy := []) rfl 300 13 _ _ _ _ h
theorem y_234_50 {m : z_M} {g : z_g} {Q : q_V → q_S → Prop} {a1 a2 a3 a4 a5 a6 : Int} {da7 : q_V} (h :
    z_ok2 a6 (m 131 18) ∧
    ((m 131 18) ≤ a6 →
      z_T 234 13 [.inr (.inr 131), .inl a1, .inl (a2 + (1 : Int)), .inl a3, .inl a4, .inl a5, .inl a6, da7] [] (z_st m g) Q) ∧
    (a6 < (m 131 18) →
      z_C 188 [.inl (a5 - (a6 - a4)), .inl (0 : Int), .inl a5] (z_st m g) (fun v S => z_T 234 71 [.inr (.inr 131), .inl a1, .inl a2, .inl a3, .inl a4, .inl a5, .inl a6, .inl (a5 - (a6 - a4))] (q_push v [.inl (((23 : Int) * a2) + a6), .inr (.inr 144)]) S Q))) :
    z_T 234 50 [.inr (.inr 131), .inl a1, .inl a2, .inl a3, .inl a4, .inl a5, .inl a6, da7] [] (z_st m g) Q := y_wp_T (cd := q_c234) (cs := [3, 13, 50, 71]) (ng := []) (sy := []) rfl 300 50 _ _ _ _ h
theorem y_234_71 {m : z_M} {g : z_g} {Q : q_V → q_S → Prop} {a1 a2 a3 a4 a5 a6 a7 s0 s1 : Int} (h :
    z_ok s0 ∧
    (¬ s0 = (0 : Int) →
      z_ok a3 ∧
      (a3 = (0 : Int) →
        z_in a7 13 ∧
        z_in s1 529 ∧
        z_T 234 50 [.inr (.inr 131), .inl a1, .inl a2, .inl a3, .inl a4, .inl a5, .inl (a6 + (1 : Int)), .inl a7] [] (z_st (q_upd m 144 ((s1).toNat) (m 141 ((a7).toNat))) g) Q) ∧
      (¬ a3 = (0 : Int) →
        z_in a7 13 ∧
        z_in s1 529 ∧
        z_T 234 50 [.inr (.inr 131), .inl a1, .inl a2, .inl a3, .inl a4, .inl a5, .inl (a6 + (1 : Int)), .inl a7] [] (z_st (q_upd m 144 ((s1).toNat) (m 140 ((a7).toNat))) g) Q)) ∧
    (s0 = (0 : Int) →
      z_in s1 529 ∧
      z_T 234 50 [.inr (.inr 131), .inl a1, .inl a2, .inl a3, .inl a4, .inl a5, .inl (a6 + (1 : Int)), .inl a7] [] (z_st (q_upd m 144 ((s1).toNat) (0 : Int)) g) Q)) :
    z_T 234 71 [.inr (.inr 131), .inl a1, .inl a2, .inl a3, .inl a4, .inl a5, .inl a6, .inl a7] [.inl s0, .inl s1, .inr (.inr 144)] (z_st m g) Q := y_wp_T (cd := q_c234) (cs := [3, 13, 50, 71]) (ng := []) (sy := []) rfl 300 71 _ _ _ _ h
theorem y_235P : q_P 235 = (q_c235, 2) := rfl
theorem y_235 {m : z_M} {g : z_g} {Q : q_V → q_S → Prop} {a1 : Int} (h :
    z_C 209 [.inr (.inr 131), .inl a1] (z_st m g) (fun v S => z_T 235 3 [.inr (.inr 131), .inl a1] (q_push v []) S Q)) :
    z_C 235 [.inr (.inr 131), .inl a1] (z_st m g) Q := y_C_wp (cs := [3, 7]) (ng := []) (sy := []) (n := 300) y_235P h
theorem y_235_3 {m : z_M} {g : z_g} {Q : q_V → q_S → Prop} {a1 s0 : Int} (h :
    z_ok s0 ∧
    (s0 = (0 : Int) →
      Q (.inl (-1 : Int)) (z_st m g)) ∧
    (¬ s0 = (0 : Int) →
      z_C 236 [.inr (.inr 131), .inl a1] (z_st m g) (fun v S => z_T 235 7 [.inr (.inr 131), .inl a1] (q_push v []) S Q))) :
    z_T 235 3 [.inr (.inr 131), .inl a1] [.inl s0] (z_st m g) Q := y_wp_T (cd := q_c235) (cs := [3, 7]) (ng := []) (sy := []) rfl 300 3 _ _ _ _ h
theorem y_235_7 {m : z_M} {g : z_g} {Q : q_V → q_S → Prop} {a1 s0 : Int} (h :
    Q (.inl s0) (z_st m g)) :
    z_T 235 7 [.inr (.inr 131), .inl a1] [.inl s0] (z_st m g) Q := y_wp_T (cd := q_c235) (cs := [3, 7]) (ng := []) (sy := []) rfl 300 7 _ _ _ _ h
theorem y_236P : q_P 236 = (q_c236, 2) := rfl
theorem y_236 {m : z_M} {g : z_g} {Q : q_V → q_S → Prop} {a1 : Int} (h :
    z_C 234 [.inr (.inr 131), .inl a1] (z_st m g) (fun v S => z_T 236 3 [.inr (.inr 131), .inl a1] (q_push v []) S Q)) :
    z_C 236 [.inr (.inr 131), .inl a1] (z_st m g) Q := y_C_wp (cs := [3, 7]) (ng := []) (sy := []) (n := 300) y_236P h
theorem y_236_3 {m : z_M} {g : z_g} {Q : q_V → q_S → Prop} {a1 : Int} (h :
    z_C 237 [.inr (.inr 131), .inl (m 131 18)] (z_st m g) (fun v S => z_T 236 7 [.inr (.inr 131), .inl a1] (q_push v []) S Q)) :
    z_T 236 3 [.inr (.inr 131), .inl a1] [] (z_st m g) Q := y_wp_T (cd := q_c236) (cs := [3, 7]) (ng := []) (sy := []) rfl 300 3 _ _ _ _ h
theorem y_236_7 {m : z_M} {g : z_g} {Q : q_V → q_S → Prop} {a1 s0 : Int} (h :
    Q (.inl s0) (z_st m g)) :
    z_T 236 7 [.inr (.inr 131), .inl a1] [.inl s0] (z_st m g) Q := y_wp_T (cd := q_c236) (cs := [3, 7]) (ng := []) (sy := []) rfl 300 7 _ _ _ _ h
theorem y_237P : q_P 237 = (q_c237, 5) := rfl
theorem y_237 {m : z_M} {g : z_g} {Q : q_V → q_S → Prop} {a1 : Int} (h :
    z_T 237 4 [.inr (.inr 131), .inl a1, .inl (1 : Int), .inl (0 : Int), q_dead] [] (z_st m g) Q) :
    z_C 237 [.inr (.inr 131), .inl a1] (z_st m g) Q := y_C_wp (cs := [4, 11, 37, 43, 55, 64]) (ng := []) (sy := []) (n := 300) y_237P h
theorem y_237_4 {m : z_M} {g : z_g} {Q : q_V → q_S → Prop} {a1 a2 a3 : Int} {da4 : q_V} (h :
    z_ok2 a3 a1 ∧
    (a1 ≤ a3 →
      Q (.inl a2) (z_st m g)) ∧
    (a3 < a1 →
      z_ok a2 ∧
      (a2 = (0 : Int) →
        Q (.inl a2) (z_st m g)) ∧
      (¬ a2 = (0 : Int) →
        z_T 237 11 [.inr (.inr 131), .inl a1, .inl a2, .inl a3, .inl a3] [] (z_st m g) Q))) :
    z_T 237 4 [.inr (.inr 131), .inl a1, .inl a2, .inl a3, da4] [] (z_st m g) Q := y_wp_T (cd := q_c237) (cs := [4, 11, 37, 43, 55, 64]) (ng := []) (sy := []) rfl 300 4 _ _ _ _ h
theorem y_237_11 {m : z_M} {g : z_g} {Q : q_V → q_S → Prop} {a1 a2 a3 a4 : Int} (h :
    z_ok2 a4 a1 ∧
    (a1 ≤ a4 →
      z_ok2 a4 a1 ∧
      (¬ a4 = a1 →
        z_ok2 a4 a3 ∧
        (a4 = a3 →
          z_C 238 [.inr (.inr 131), .inl a4, .inl a3, .inl a1] (z_st m g) (fun v S => z_T 237 43 [.inr (.inr 131), .inl a1, .inl a2, .inl a3, .inl a4] (q_push v []) S Q)) ∧
        (¬ a4 = a3 →
          z_C 215 [.inr (.inr 131), .inl (-a2)] (z_st m g) (fun v S => z_T 237 37 [.inr (.inr 131), .inl a1, .inl a2, .inl a3, .inl a4] (q_push v []) S Q))) ∧
      (a4 = a1 →
        Q (.inl (0 : Int)) (z_st m g))) ∧
    (a4 < a1 →
      z_in (((23 : Int) * a4) + a3) 529 ∧
      z_ok (m 144 ((((23 : Int) * a4) + a3).toNat)) ∧
      (¬ (m 144 ((((23 : Int) * a4) + a3).toNat)) = (0 : Int) →
        z_ok2 a4 a1 ∧
        (¬ a4 = a1 →
          z_ok2 a4 a3 ∧
          (a4 = a3 →
            z_C 238 [.inr (.inr 131), .inl a4, .inl a3, .inl a1] (z_st m g) (fun v S => z_T 237 43 [.inr (.inr 131), .inl a1, .inl a2, .inl a3, .inl a4] (q_push v []) S Q)) ∧
          (¬ a4 = a3 →
            z_C 215 [.inr (.inr 131), .inl (-a2)] (z_st m g) (fun v S => z_T 237 37 [.inr (.inr 131), .inl a1, .inl a2, .inl a3, .inl a4] (q_push v []) S Q))) ∧
        (a4 = a1 →
          Q (.inl (0 : Int)) (z_st m g))) ∧
      ((m 144 ((((23 : Int) * a4) + a3).toNat)) = (0 : Int) →
        z_T 237 11 [.inr (.inr 131), .inl a1, .inl a2, .inl a3, .inl (a4 + (1 : Int))] [] (z_st m g) Q))) :
    z_T 237 11 [.inr (.inr 131), .inl a1, .inl a2, .inl a3, .inl a4] [] (z_st m g) Q := y_wp_T (cd := q_c237) (cs := [4, 11, 37, 43, 55, 64]) (ng := []) (sy := []) rfl 300 11 _ _ _ _ h
theorem y_237_37 {m : z_M} {g : z_g} {Q : q_V → q_S → Prop} {a1 a2 a3 a4 s0 : Int} (h :
    z_C 238 [.inr (.inr 131), .inl a4, .inl a3, .inl a1] (z_st m g) (fun v S => z_T 237 43 [.inr (.inr 131), .inl a1, .inl s0, .inl a3, .inl a4] (q_push v []) S Q)) :
    z_T 237 37 [.inr (.inr 131), .inl a1, .inl a2, .inl a3, .inl a4] [.inl s0] (z_st m g) Q := y_wp_T (cd := q_c237) (cs := [4, 11, 37, 43, 55, 64]) (ng := []) (sy := []) rfl 300 37 _ _ _ _ h
theorem y_237_43 {m : z_M} {g : z_g} {Q : q_V → q_S → Prop} {a1 a2 a3 a4 : Int} (h :
    z_in (((23 : Int) * a3) + a3) 529 ∧
    z_C 216 [.inr (.inr 131)] (z_st m g) (fun v S => z_T 237 55 [.inr (.inr 131), .inl a1, .inl a2, .inl a3, .inl a4] (q_push v [.inl (a2 * (m 144 ((((23 : Int) * a3) + a3).toNat)))]) S Q)) :
    z_T 237 43 [.inr (.inr 131), .inl a1, .inl a2, .inl a3, .inl a4] [] (z_st m g) Q := y_wp_T (cd := q_c237) (cs := [4, 11, 37, 43, 55, 64]) (ng := []) (sy := []) rfl 300 43 _ _ _ _ h
theorem y_237_55 {m : z_M} {g : z_g} {Q : q_V → q_S → Prop} {a1 a2 a3 a4 s0 s1 : Int} (h :
    z_dv s1 s0 ∧
    z_C 239 [.inr (.inr 131), .inl a3, .inl (a3 + (1 : Int)), .inl a1] (z_st m g) (fun v S => z_T 237 64 [.inr (.inr 131), .inl a1, .inl (s1 % s0), .inl a3, .inl a4] (q_push v []) S Q)) :
    z_T 237 55 [.inr (.inr 131), .inl a1, .inl a2, .inl a3, .inl a4] [.inl s0, .inl s1] (z_st m g) Q := y_wp_T (cd := q_c237) (cs := [4, 11, 37, 43, 55, 64]) (ng := []) (sy := []) rfl 300 55 _ _ _ _ h
theorem y_237_64 {m : z_M} {g : z_g} {Q : q_V → q_S → Prop} {a1 a2 a3 a4 : Int} (h :
    z_T 237 4 [.inr (.inr 131), .inl a1, .inl a2, .inl (a3 + (1 : Int)), .inl a4] [] (z_st m g) Q) :
    z_T 237 64 [.inr (.inr 131), .inl a1, .inl a2, .inl a3, .inl a4] [] (z_st m g) Q := y_wp_T (cd := q_c237) (cs := [4, 11, 37, 43, 55, 64]) (ng := []) (sy := []) rfl 300 64 _ _ _ _ h
theorem y_238P : q_P 238 = (q_c238, 6) := rfl
theorem y_238 {m : z_M} {g : z_g} {Q : q_V → q_S → Prop} {a1 a2 a3 : Int} (h :
    z_T 238 2 [.inr (.inr 131), .inl a1, .inl a2, .inl a3, .inl (0 : Int), q_dead] [] (z_st m g) Q) :
    z_C 238 [.inr (.inr 131), .inl a1, .inl a2, .inl a3] (z_st m g) Q := y_C_wp (cs := [2]) (ng := []) (sy := []) (n := 300) y_238P h
theorem y_238_2 {m : z_M} {g : z_g} {Q : q_V → q_S → Prop} {a1 a2 a3 a4 : Int} {da5 : q_V} (h :
    z_ok2 a4 a3 ∧
    (a3 ≤ a4 →
      Q q_dead (z_st m g)) ∧
    (a4 < a3 →
      z_in (((23 : Int) * a1) + a4) 529 ∧
      z_in (((23 : Int) * a2) + a4) 529 ∧
      z_in (((23 : Int) * a1) + a4) 529 ∧
      z_in (((23 : Int) * a2) + a4) 529 ∧
      z_T 238 2 [.inr (.inr 131), .inl a1, .inl a2, .inl a3, .inl (a4 + (1 : Int)), .inl (m 144 ((((23 : Int) * a1) + a4).toNat))] [] (z_st (q_upd (q_upd m 144 ((((23 : Int) * a1) + a4).toNat) (m 144 ((((23 : Int) * a2) + a4).toNat))) 144 ((((23 : Int) * a2) + a4).toNat) (m 144 ((((23 : Int) * a1) + a4).toNat))) g) Q)) :
    z_T 238 2 [.inr (.inr 131), .inl a1, .inl a2, .inl a3, .inl a4, da5] [] (z_st m g) Q := y_wp_T (cd := q_c238) (cs := [2]) (ng := []) (sy := []) rfl 300 2 _ _ _ _ h
theorem y_239P : q_P 239 = (q_c239, 8) := rfl
theorem y_239 {m : z_M} {g : z_g} {Q : q_V → q_S → Prop} {a1 a2 a3 : Int} (h :
    z_in (((23 : Int) * a1) + a1) 529 ∧
    z_C 226 [.inr (.inr 131), .inl (m 144 ((((23 : Int) * a1) + a1).toNat))] (z_st m g) (fun v S => z_T 239 10 [.inr (.inr 131), .inl a1, .inl a2, .inl a3, q_dead, q_dead, q_dead, q_dead] (q_push v []) S Q)) :
    z_C 239 [.inr (.inr 131), .inl a1, .inl a2, .inl a3] (z_st m g) Q := y_C_wp (cs := [10, 13, 28, 32, 63]) (ng := []) (sy := []) (n := 300) y_239P h
theorem y_239_10 {m : z_M} {g : z_g} {Q : q_V → q_S → Prop} {a1 a2 a3 s0 : Int} (h :
    z_T 239 13 [.inr (.inr 131), .inl a1, .inl a2, .inl a3, .inl s0, .inl a2, q_dead, q_dead] [] (z_st m g) Q) :
    z_T 239 10 [.inr (.inr 131), .inl a1, .inl a2, .inl a3, q_dead, q_dead, q_dead, q_dead] [.inl s0] (z_st m g) Q := y_wp_T (cd := q_c239) (cs := [10, 13, 28, 32, 63]) (ng := []) (sy := []) rfl 300 10 _ _ _ _ h
theorem y_239_13 {m : z_M} {g : z_g} {Q : q_V → q_S → Prop} {a1 a2 a3 a4 a5 : Int} {da6 da7 : q_V} (h :
    z_ok2 a5 a3 ∧
    (a3 ≤ a5 →
      Q q_dead (z_st m g)) ∧
    (a5 < a3 →
      z_in (((23 : Int) * a5) + a1) 529 ∧
      z_C 216 [.inr (.inr 131)] (z_st m g) (fun v S => z_T 239 28 [.inr (.inr 131), .inl a1, .inl a2, .inl a3, .inl a4, .inl a5, da6, da7] (q_push v [.inl ((m 144 ((((23 : Int) * a5) + a1).toNat)) * a4)]) S Q))) :
    z_T 239 13 [.inr (.inr 131), .inl a1, .inl a2, .inl a3, .inl a4, .inl a5, da6, da7] [] (z_st m g) Q := y_wp_T (cd := q_c239) (cs := [10, 13, 28, 32, 63]) (ng := []) (sy := []) rfl 300 13 _ _ _ _ h
theorem y_239_28 {m : z_M} {g : z_g} {Q : q_V → q_S → Prop} {a1 a2 a3 a4 a5 s0 s1 : Int} {da6 da7 : q_V} (h :
    z_dv s1 s0 ∧
    z_T 239 32 [.inr (.inr 131), .inl a1, .inl a2, .inl a3, .inl a4, .inl a5, .inl (s1 % s0), .inl a1] [] (z_st m g) Q) :
    z_T 239 28 [.inr (.inr 131), .inl a1, .inl a2, .inl a3, .inl a4, .inl a5, da6, da7] [.inl s0, .inl s1] (z_st m g) Q := y_wp_T (cd := q_c239) (cs := [10, 13, 28, 32, 63]) (ng := []) (sy := []) rfl 300 28 _ _ _ _ h
theorem y_239_32 {m : z_M} {g : z_g} {Q : q_V → q_S → Prop} {a1 a2 a3 a4 a5 a6 a7 : Int} (h :
    z_ok2 a7 a3 ∧
    (a3 ≤ a7 →
      z_T 239 13 [.inr (.inr 131), .inl a1, .inl a2, .inl a3, .inl a4, .inl (a5 + (1 : Int)), .inl a6, .inl a7] [] (z_st m g) Q) ∧
    (a7 < a3 →
      z_in (((23 : Int) * a5) + a7) 529 ∧
      z_in (((23 : Int) * a1) + a7) 529 ∧
      z_C 215 [.inr (.inr 131), .inl ((m 144 ((((23 : Int) * a5) + a7).toNat)) - (a6 * (m 144 ((((23 : Int) * a1) + a7).toNat))))] (z_st m g) (fun v S => z_T 239 63 [.inr (.inr 131), .inl a1, .inl a2, .inl a3, .inl a4, .inl a5, .inl a6, .inl a7] (q_push v [.inl (((23 : Int) * a5) + a7), .inr (.inr 144)]) S Q))) :
    z_T 239 32 [.inr (.inr 131), .inl a1, .inl a2, .inl a3, .inl a4, .inl a5, .inl a6, .inl a7] [] (z_st m g) Q := y_wp_T (cd := q_c239) (cs := [10, 13, 28, 32, 63]) (ng := []) (sy := []) rfl 300 32 _ _ _ _ h
theorem y_239_63 {m : z_M} {g : z_g} {Q : q_V → q_S → Prop} {a1 a2 a3 a4 a5 a6 a7 s0 s1 : Int} (h :
    z_in s1 529 ∧
    z_T 239 32 [.inr (.inr 131), .inl a1, .inl a2, .inl a3, .inl a4, .inl a5, .inl a6, .inl (a7 + (1 : Int))] [] (z_st (q_upd m 144 ((s1).toNat) s0) g) Q) :
    z_T 239 63 [.inr (.inr 131), .inl a1, .inl a2, .inl a3, .inl a4, .inl a5, .inl a6, .inl a7] [.inl s0, .inl s1, .inr (.inr 144)] (z_st m g) Q := y_wp_T (cd := q_c239) (cs := [10, 13, 28, 32, 63]) (ng := []) (sy := []) rfl 300 63 _ _ _ _ h
theorem y_240P : q_P 240 = (q_c240, 11) := rfl
theorem y_240 {m : z_M} {g : z_g} {Q : q_V → q_S → Prop} {a1 a2 a3 : Int} (h :
    z_C 195 [.inr (.inr 131), .inl a1] (z_st m g) (fun v S => z_T 240 3 [.inr (.inr 131), .inl a1, .inl a2, .inl a3, q_dead, q_dead, q_dead, q_dead, q_dead, q_dead, q_dead] (q_push v []) S Q)) :
    z_C 240 [.inr (.inr 131), .inl a1, .inl a2, .inl a3] (z_st m g) Q := y_C_wp (cs := [3, 6, 12, 29, 54, 57, 60, 64, 69, 84, 91, 94, 110, 111, 114]) (ng := []) (sy := []) (n := 300) y_240P h
theorem y_240_3 {m : z_M} {g : z_g} {Q : q_V → q_S → Prop} {a1 a2 a3 s0 : Int} (h :
    z_ok s0 ∧
    (s0 = (0 : Int) →
      Q (.inl (-1 : Int)) (z_st m g)) ∧
    (¬ s0 = (0 : Int) →
      z_C 241 [.inl a3] (z_st m g) (fun v S => z_T 240 6 [.inr (.inr 131), .inl a1, .inl a2, .inl a3, q_dead, q_dead, q_dead, q_dead, q_dead, q_dead, q_dead] (q_push v []) S Q))) :
    z_T 240 3 [.inr (.inr 131), .inl a1, .inl a2, .inl a3, q_dead, q_dead, q_dead, q_dead, q_dead, q_dead, q_dead] [.inl s0] (z_st m g) Q := y_wp_T (cd := q_c240) (cs := [3, 6, 12, 29, 54, 57, 60, 64, 69, 84, 91, 94, 110, 111, 114]) (ng := []) (sy := []) rfl 300 3 _ _ _ _ h
theorem y_240_6 {m : z_M} {g : z_g} {Q : q_V → q_S → Prop} {a1 a2 a3 s0 : Int} (h :
    z_ok s0 ∧
    (¬ s0 = (0 : Int) →
      z_C 242 [.inr (.inr 131), .inl a2] (z_st m g) (fun v S => z_T 240 12 [.inr (.inr 131), .inl a1, .inl a2, .inl a3, q_dead, q_dead, q_dead, q_dead, q_dead, q_dead, q_dead] (q_push v []) S Q)) ∧
    (s0 = (0 : Int) →
      Q (.inl (-1 : Int)) (z_st m g))) :
    z_T 240 6 [.inr (.inr 131), .inl a1, .inl a2, .inl a3, q_dead, q_dead, q_dead, q_dead, q_dead, q_dead, q_dead] [.inl s0] (z_st m g) Q := y_wp_T (cd := q_c240) (cs := [3, 6, 12, 29, 54, 57, 60, 64, 69, 84, 91, 94, 110, 111, 114]) (ng := []) (sy := []) rfl 300 6 _ _ _ _ h
theorem y_240_12 {m : z_M} {g : z_g} {Q : q_V → q_S → Prop} {a1 a2 a3 s0 : Int} (h :
    z_ok s0 ∧
    (¬ s0 = (0 : Int) →
      z_in a3 4 ∧
      z_ok (m 161 ((a3).toNat)) ∧
      ((0 : Int) ≤ (m 161 ((a3).toNat)) →
        z_in a1 6 ∧
        z_C 192 [.inl (m 133 ((a1).toNat))] (z_st m g) (fun v S => z_T 240 29 [.inr (.inr 131), .inl a1, .inl a2, .inl a3, .inl (m 133 ((a1).toNat)), q_dead, q_dead, q_dead, q_dead, q_dead, q_dead] (q_push v []) S Q)) ∧
      ((m 161 ((a3).toNat)) < (0 : Int) →
        Q (.inl (-11 : Int)) (z_st m g))) ∧
    (s0 = (0 : Int) →
      Q (.inl (-2 : Int)) (z_st m g))) :
    z_T 240 12 [.inr (.inr 131), .inl a1, .inl a2, .inl a3, q_dead, q_dead, q_dead, q_dead, q_dead, q_dead, q_dead] [.inl s0] (z_st m g) Q := y_wp_T (cd := q_c240) (cs := [3, 6, 12, 29, 54, 57, 60, 64, 69, 84, 91, 94, 110, 111, 114]) (ng := []) (sy := []) rfl 300 12 _ _ _ _ h
theorem y_240_29 {m : z_M} {g : z_g} {Q : q_V → q_S → Prop} {a1 a2 a3 a4 s0 : Int} (h :
    z_in a3 4 ∧
    z_ok2 (m 161 ((a3).toNat)) (s0 - (2 : Int)) ∧
    ((s0 - (2 : Int)) ≤ (m 161 ((a3).toNat)) →
      z_ok2 (m 131 8) (6 : Int) ∧
      (¬ (m 131 8) = (6 : Int) →
        z_C 207 [.inr (.inr 131), .inl a1, .inl (0 : Int), .inl (0 : Int)] (z_st (q_upd m 131 41 (0 : Int)) g) (fun v S => z_T 240 54 [.inr (.inr 131), .inl a1, .inl a2, .inl a3, .inl a4, .inl (s0 - (2 : Int)), q_dead, q_dead, q_dead, q_dead, q_dead] (q_push v []) S Q)) ∧
      ((m 131 8) = (6 : Int) →
        Q (.inl (-4 : Int)) (z_st m g))) ∧
    ((m 161 ((a3).toNat)) < (s0 - (2 : Int)) →
      Q (.inl (-13 : Int)) (z_st m g))) :
    z_T 240 29 [.inr (.inr 131), .inl a1, .inl a2, .inl a3, .inl a4, q_dead, q_dead, q_dead, q_dead, q_dead, q_dead] [.inl s0] (z_st m g) Q := y_wp_T (cd := q_c240) (cs := [3, 6, 12, 29, 54, 57, 60, 64, 69, 84, 91, 94, 110, 111, 114]) (ng := []) (sy := []) rfl 300 29 _ _ _ _ h
theorem y_240_54 {m : z_M} {g : z_g} {Q : q_V → q_S → Prop} {a1 a2 a3 a4 a5 s0 : Int} (h :
    z_T 240 57 [.inr (.inr 131), .inl a1, .inl a2, .inl a3, .inl a4, .inl a5, .inl s0, .inl (0 : Int), q_dead, q_dead, q_dead] [] (z_st m g) Q) :
    z_T 240 54 [.inr (.inr 131), .inl a1, .inl a2, .inl a3, .inl a4, .inl a5, q_dead, q_dead, q_dead, q_dead, q_dead] [.inl s0] (z_st m g) Q := y_wp_T (cd := q_c240) (cs := [3, 6, 12, 29, 54, 57, 60, 64, 69, 84, 91, 94, 110, 111, 114]) (ng := []) (sy := []) rfl 300 54 _ _ _ _ h
theorem y_240_57 {m : z_M} {g : z_g} {Q : q_V → q_S → Prop} {a1 a2 a3 a4 a5 a6 a7 : Int} {da8 da9 da10 : q_V} (h :
    z_C 192 [.inl a4] (z_st m g) (fun v S => z_T 240 60 [.inr (.inr 131), .inl a1, .inl a2, .inl a3, .inl a4, .inl a5, .inl a6, .inl a7, da8, da9, da10] (q_push v [.inl a7]) S Q)) :
    z_T 240 57 [.inr (.inr 131), .inl a1, .inl a2, .inl a3, .inl a4, .inl a5, .inl a6, .inl a7, da8, da9, da10] [] (z_st m g) Q := y_wp_T (cd := q_c240) (cs := [3, 6, 12, 29, 54, 57, 60, 64, 69, 84, 91, 94, 110, 111, 114]) (ng := []) (sy := []) rfl 300 57 _ _ _ _ h
theorem y_240_60 {m : z_M} {g : z_g} {Q : q_V → q_S → Prop} {a1 a2 a3 a4 a5 a6 a7 s0 s1 : Int} {da8 da9 da10 : q_V} (h :
    z_ok2 s1 s0 ∧
    (s0 ≤ s1 →
      Q (.inl a6) (z_st m g)) ∧
    (s1 < s0 →
      z_C 198 [.inl a4, .inl a7] (z_st m g) (fun v S => z_T 240 64 [.inr (.inr 131), .inl a1, .inl a2, .inl a3, .inl a4, .inl a5, .inl a6, .inl a7, da8, da9, da10] (q_push v []) S Q))) :
    z_T 240 60 [.inr (.inr 131), .inl a1, .inl a2, .inl a3, .inl a4, .inl a5, .inl a6, .inl a7, da8, da9, da10] [.inl s0, .inl s1] (z_st m g) Q := y_wp_T (cd := q_c240) (cs := [3, 6, 12, 29, 54, 57, 60, 64, 69, 84, 91, 94, 110, 111, 114]) (ng := []) (sy := []) rfl 300 60 _ _ _ _ h
theorem y_240_64 {m : z_M} {g : z_g} {Q : q_V → q_S → Prop} {a1 a2 a3 a4 a5 a6 a7 s0 : Int} {da8 da9 da10 : q_V} (h :
    z_T 240 69 [.inr (.inr 131), .inl a1, .inl a2, .inl a3, .inl a4, .inl a5, .inl a6, .inl a7, .inl s0, .inl (0 : Int), .inl (0 : Int)] [] (z_st m g) Q) :
    z_T 240 64 [.inr (.inr 131), .inl a1, .inl a2, .inl a3, .inl a4, .inl a5, .inl a6, .inl a7, da8, da9, da10] [.inl s0] (z_st m g) Q := y_wp_T (cd := q_c240) (cs := [3, 6, 12, 29, 54, 57, 60, 64, 69, 84, 91, 94, 110, 111, 114]) (ng := []) (sy := []) rfl 300 64 _ _ _ _ h
theorem y_240_69 {m : z_M} {g : z_g} {Q : q_V → q_S → Prop} {a1 a2 a3 a4 a5 a6 a7 a8 a9 a10 : Int} (h :
    z_ok2 a10 a5 ∧
    (a5 ≤ a10 →
      z_C 227 [.inr (.inr 131), .inl a2, .inl a8] (z_st m g) (fun v S => z_T 240 110 [.inr (.inr 131), .inl a1, .inl a2, .inl a3, .inl a4, .inl a5, .inl a6, .inl a7, .inl a8, .inl a9, .inl a10] (q_push v [.inr (.inr 131), .inl a9, .inl (((13 : Int) * a6) + a8), .inr (.inr 137)]) S Q)) ∧
    (a10 < a5 →
      z_in (((20 : Int) * a3) + a10) 80 ∧
      z_C 216 [.inr (.inr 131)] (z_st m g) (fun v S => z_T 240 84 [.inr (.inr 131), .inl a1, .inl a2, .inl a3, .inl a4, .inl a5, .inl a6, .inl a7, .inl a8, .inl a9, .inl a10] (q_push v [.inr (.inl (m 162 ((((20 : Int) * a3) + a10).toNat))), .inl a9, .inr (.inr 131)]) S Q))) :
    z_T 240 69 [.inr (.inr 131), .inl a1, .inl a2, .inl a3, .inl a4, .inl a5, .inl a6, .inl a7, .inl a8, .inl a9, .inl a10] [] (z_st m g) Q := y_wp_T (cd := q_c240) (cs := [3, 6, 12, 29, 54, 57, 60, 64, 69, 84, 91, 94, 110, 111, 114]) (ng := []) (sy := []) rfl 300 69 _ _ _ _ h
theorem y_240_84 {m : z_M} {g : z_g} {Q : q_V → q_S → Prop} {a1 a2 a3 a4 a5 a6 a7 a8 a9 a10 s0 s1 s2 : Int} (h :
    z_ok s0 ∧
    z_dm s1 s0 ∧
    z_C 205 [.inl a4, .inl a10, .inl a8] (z_st m g) (fun v S => z_T 240 91 [.inr (.inr 131), .inl a1, .inl a2, .inl a3, .inl a4, .inl a5, .inl a6, .inl a7, .inl a8, .inl a9, .inl a10] (q_push v [.inl ((s1).tmod s0), .inl s2, .inr (.inr 131)]) S Q)) :
    z_T 240 84 [.inr (.inr 131), .inl a1, .inl a2, .inl a3, .inl a4, .inl a5, .inl a6, .inl a7, .inl a8, .inl a9, .inl a10] [.inl s0, .inr (.inl s1), .inl s2, .inr (.inr 131)] (z_st m g) Q := y_wp_T (cd := q_c240) (cs := [3, 6, 12, 29, 54, 57, 60, 64, 69, 84, 91, 94, 110, 111, 114]) (ng := [85]) (sy := []) rfl 300 84 _ _ _ _ h
theorem y_240_91 {m : z_M} {g : z_g} {Q : q_V → q_S → Prop} {a1 a2 a3 a4 a5 a6 a7 a8 a9 a10 s0 s1 s2 : Int} (h :
    z_C 215 [.inr (.inr 131), .inl (s2 + (s1 * s0))] (z_st m g) (fun v S => z_T 240 94 [.inr (.inr 131), .inl a1, .inl a2, .inl a3, .inl a4, .inl a5, .inl a6, .inl a7, .inl a8, .inl a9, .inl a10] (q_push v []) S Q)) :
    z_T 240 91 [.inr (.inr 131), .inl a1, .inl a2, .inl a3, .inl a4, .inl a5, .inl a6, .inl a7, .inl a8, .inl a9, .inl a10] [.inl s0, .inl s1, .inl s2, .inr (.inr 131)] (z_st m g) Q := y_wp_T (cd := q_c240) (cs := [3, 6, 12, 29, 54, 57, 60, 64, 69, 84, 91, 94, 110, 111, 114]) (ng := []) (sy := []) rfl 300 91 _ _ _ _ h
theorem y_240_94 {m : z_M} {g : z_g} {Q : q_V → q_S → Prop} {a1 a2 a3 a4 a5 a6 a7 a8 a9 a10 s0 : Int} (h :
    z_T 240 69 [.inr (.inr 131), .inl a1, .inl a2, .inl a3, .inl a4, .inl a5, .inl a6, .inl a7, .inl a8, .inl s0, .inl (a10 + (1 : Int))] [] (z_st m g) Q) :
    z_T 240 94 [.inr (.inr 131), .inl a1, .inl a2, .inl a3, .inl a4, .inl a5, .inl a6, .inl a7, .inl a8, .inl a9, .inl a10] [.inl s0] (z_st m g) Q := y_wp_T (cd := q_c240) (cs := [3, 6, 12, 29, 54, 57, 60, 64, 69, 84, 91, 94, 110, 111, 114]) (ng := []) (sy := []) rfl 300 94 _ _ _ _ h
theorem y_240_110 {m : z_M} {g : z_g} {Q : q_V → q_S → Prop} {a1 a2 a3 a4 a5 a6 a7 a8 a9 a10 s0 s2 s3 : Int} (h :
    z_C 226 [.inr (.inr 131), .inl s0] (z_st m g) (fun v S => z_T 240 111 [.inr (.inr 131), .inl a1, .inl a2, .inl a3, .inl a4, .inl a5, .inl a6, .inl a7, .inl a8, .inl a9, .inl a10] (q_push v [.inl s2, .inl s3, .inr (.inr 137)]) S Q)) :
    z_T 240 110 [.inr (.inr 131), .inl a1, .inl a2, .inl a3, .inl a4, .inl a5, .inl a6, .inl a7, .inl a8, .inl a9, .inl a10] [.inl s0, .inr (.inr 131), .inl s2, .inl s3, .inr (.inr 137)] (z_st m g) Q := y_wp_T (cd := q_c240) (cs := [3, 6, 12, 29, 54, 57, 60, 64, 69, 84, 91, 94, 110, 111, 114]) (ng := []) (sy := []) rfl 300 110 _ _ _ _ h
theorem y_240_111 {m : z_M} {g : z_g} {Q : q_V → q_S → Prop} {a1 a2 a3 a4 a5 a6 a7 a8 a9 a10 s0 s1 s2 : Int} (h :
    z_C 216 [.inr (.inr 131)] (z_st m g) (fun v S => z_T 240 114 [.inr (.inr 131), .inl a1, .inl a2, .inl a3, .inl a4, .inl a5, .inl a6, .inl a7, .inl a8, .inl a9, .inl a10] (q_push v [.inl (s1 * s0), .inl s2, .inr (.inr 137)]) S Q)) :
    z_T 240 111 [.inr (.inr 131), .inl a1, .inl a2, .inl a3, .inl a4, .inl a5, .inl a6, .inl a7, .inl a8, .inl a9, .inl a10] [.inl s0, .inl s1, .inl s2, .inr (.inr 137)] (z_st m g) Q := y_wp_T (cd := q_c240) (cs := [3, 6, 12, 29, 54, 57, 60, 64, 69, 84, 91, 94, 110, 111, 114]) (ng := []) (sy := []) rfl 300 111 _ _ _ _ h
theorem y_240_114 {m : z_M} {g : z_g} {Q : q_V → q_S → Prop} {a1 a2 a3 a4 a5 a6 a7 a8 a9 a10 s0 s1 s2 : Int} (h :
    z_dv s1 s0 ∧
    z_in s2 78 ∧
    z_T 240 57 [.inr (.inr 131), .inl a1, .inl a2, .inl a3, .inl a4, .inl a5, .inl a6, .inl (a7 + (1 : Int)), .inl a8, .inl a9, .inl a10] [] (z_st (q_upd m 137 ((s2).toNat) (s1 % s0)) g) Q) :
    z_T 240 114 [.inr (.inr 131), .inl a1, .inl a2, .inl a3, .inl a4, .inl a5, .inl a6, .inl a7, .inl a8, .inl a9, .inl a10] [.inl s0, .inl s1, .inl s2, .inr (.inr 137)] (z_st m g) Q := y_wp_T (cd := q_c240) (cs := [3, 6, 12, 29, 54, 57, 60, 64, 69, 84, 91, 94, 110, 111, 114]) (ng := []) (sy := []) rfl 300 114 _ _ _ _ h
theorem y_241P : q_P 241 = (q_c241, 1) := rfl
theorem y_241 {m : z_M} {g : z_g} {Q : q_V → q_S → Prop} {a0 : Int} (h :
    z_C 188 [.inl a0, .inl (0 : Int), .inl (3 : Int)] (z_st m g) (fun v S => z_T 241 4 [.inl a0] (q_push v []) S Q)) :
    z_C 241 [.inl a0] (z_st m g) Q := y_C_wp (cs := [4]) (ng := []) (sy := []) (n := 300) y_241P h
theorem y_241_4 {m : z_M} {g : z_g} {Q : q_V → q_S → Prop} {a0 s0 : Int} (h :
    (s0 = 0 ∨ s0 = 1) ∧ Q (.inl s0) (z_st m g)) :
    z_T 241 4 [.inl a0] [.inl s0] (z_st m g) Q := y_wp_T (cd := q_c241) (cs := [4]) (ng := [4]) (sy := []) rfl 300 4 _ _ _ _ h
theorem y_242P : q_P 242 = (q_c242, 2) := rfl
theorem y_242 {m : z_M} {g : z_g} {Q : q_V → q_S → Prop} {a1 : Int} (h :
    z_C 216 [.inr (.inr 131)] (z_st m g) (fun v S => z_T 242 4 [.inr (.inr 131), .inl a1] (q_push v [.inl (1 : Int), .inl a1]) S Q)) :
    z_C 242 [.inr (.inr 131), .inl a1] (z_st m g) Q := y_C_wp (cs := [4, 7]) (ng := []) (sy := []) (n := 300) y_242P h
theorem y_242_4 {m : z_M} {g : z_g} {Q : q_V → q_S → Prop} {a1 s0 s1 s2 : Int} (h :
    z_C 188 [.inl s2, .inl s1, .inl (s0 - (1 : Int))] (z_st m g) (fun v S => z_T 242 7 [.inr (.inr 131), .inl a1] (q_push v []) S Q)) :
    z_T 242 4 [.inr (.inr 131), .inl a1] [.inl s0, .inl s1, .inl s2] (z_st m g) Q := y_wp_T (cd := q_c242) (cs := [4, 7]) (ng := []) (sy := []) rfl 300 4 _ _ _ _ h
theorem y_242_7 {m : z_M} {g : z_g} {Q : q_V → q_S → Prop} {a1 s0 : Int} (h :
    (s0 = 0 ∨ s0 = 1) ∧ Q (.inl s0) (z_st m g)) :
    z_T 242 7 [.inr (.inr 131), .inl a1] [.inl s0] (z_st m g) Q := y_wp_T (cd := q_c242) (cs := [4, 7]) (ng := [7]) (sy := []) rfl 300 7 _ _ _ _ h
theorem y_243P : q_P 243 = (q_c243, 3) := rfl
theorem y_243 {m : z_M} {g : z_g} {Q : q_V → q_S → Prop} {a1 a2 : Int} (h :
    z_C 209 [.inr (.inr 131), .inl a1] (z_st m g) (fun v S => z_T 243 3 [.inr (.inr 131), .inl a1, .inl a2] (q_push v []) S Q)) :
    z_C 243 [.inr (.inr 131), .inl a1, .inl a2] (z_st m g) Q := y_C_wp (cs := [3, 9, 16]) (ng := []) (sy := []) (n := 300) y_243P h
theorem y_243_3 {m : z_M} {g : z_g} {Q : q_V → q_S → Prop} {a1 a2 s0 : Int} (h :
    z_ok s0 ∧
    (¬ s0 = (0 : Int) →
      z_C 242 [.inr (.inr 131), .inl a2] (z_st m g) (fun v S => z_T 243 9 [.inr (.inr 131), .inl a1, .inl a2] (q_push v []) S Q)) ∧
    (s0 = (0 : Int) →
      Q (.inl (-1 : Int)) (z_st m g))) :
    z_T 243 3 [.inr (.inr 131), .inl a1, .inl a2] [.inl s0] (z_st m g) Q := y_wp_T (cd := q_c243) (cs := [3, 9, 16]) (ng := []) (sy := []) rfl 300 3 _ _ _ _ h
theorem y_243_9 {m : z_M} {g : z_g} {Q : q_V → q_S → Prop} {a1 a2 s0 : Int} (h :
    z_ok s0 ∧
    (¬ s0 = (0 : Int) →
      z_C 244 [.inr (.inr 131), .inl a1, .inl a2] (z_st m g) (fun v S => z_T 243 16 [.inr (.inr 131), .inl a1, .inl a2] (q_push v []) S Q)) ∧
    (s0 = (0 : Int) →
      Q (.inl (-2 : Int)) (z_st m g))) :
    z_T 243 9 [.inr (.inr 131), .inl a1, .inl a2] [.inl s0] (z_st m g) Q := y_wp_T (cd := q_c243) (cs := [3, 9, 16]) (ng := []) (sy := []) rfl 300 9 _ _ _ _ h
theorem y_243_16 {m : z_M} {g : z_g} {Q : q_V → q_S → Prop} {a1 a2 s0 : Int} (h :
    z_ok s0 ∧
    (s0 = (0 : Int) →
      Q (.inl (0 : Int)) (z_st m g)) ∧
    (¬ s0 = (0 : Int) →
      Q (.inl (1 : Int)) (z_st m g))) :
    z_T 243 16 [.inr (.inr 131), .inl a1, .inl a2] [.inl s0] (z_st m g) Q := y_wp_T (cd := q_c243) (cs := [3, 9, 16]) (ng := []) (sy := []) rfl 300 16 _ _ _ _ h
theorem y_244P : q_P 244 = (q_c244, 3) := rfl
theorem y_244 {m : z_M} {g : z_g} {Q : q_V → q_S → Prop} {a1 a2 : Int} (h :
    z_C 245 [.inr (.inr 131), .inl a1, .inl a2] (z_st m g) (fun v S => z_T 244 4 [.inr (.inr 131), .inl a1, .inl a2] (q_push v []) S Q)) :
    z_C 244 [.inr (.inr 131), .inl a1, .inl a2] (z_st m g) Q := y_C_wp (cs := [4, 8, 11, 15, 17]) (ng := []) (sy := []) (n := 300) y_244P h
theorem y_244_4 {m : z_M} {g : z_g} {Q : q_V → q_S → Prop} {a1 a2 : Int} (h :
    z_C 210 [.inr (.inr 131), .inl a1] (z_st m g) (fun v S => z_T 244 8 [.inr (.inr 131), .inl a1, .inl a2] (q_push v [.inr (.inr 131)]) S Q)) :
    z_T 244 4 [.inr (.inr 131), .inl a1, .inl a2] [] (z_st m g) Q := y_wp_T (cd := q_c244) (cs := [4, 8, 11, 15, 17]) (ng := []) (sy := []) rfl 300 4 _ _ _ _ h
theorem y_244_8 {m : z_M} {g : z_g} {Q : q_V → q_S → Prop} {a1 a2 s0 : Int} (h :
    z_C 246 [.inr (.inr 131), .inl s0, .inl (0 : Int), .inl (0 : Int)] (z_st m g) (fun v S => z_T 244 11 [.inr (.inr 131), .inl a1, .inl a2] (q_push v []) S Q)) :
    z_T 244 8 [.inr (.inr 131), .inl a1, .inl a2] [.inl s0, .inr (.inr 131)] (z_st m g) Q := y_wp_T (cd := q_c244) (cs := [4, 8, 11, 15, 17]) (ng := []) (sy := []) rfl 300 8 _ _ _ _ h
theorem y_244_11 {m : z_M} {g : z_g} {Q : q_V → q_S → Prop} {a1 a2 : Int} (h :
    z_C 210 [.inr (.inr 131), .inl a1] (z_st m g) (fun v S => z_T 244 15 [.inr (.inr 131), .inl a1, .inl a2] (q_push v [.inr (.inr 131)]) S Q)) :
    z_T 244 11 [.inr (.inr 131), .inl a1, .inl a2] [] (z_st m g) Q := y_wp_T (cd := q_c244) (cs := [4, 8, 11, 15, 17]) (ng := []) (sy := []) rfl 300 11 _ _ _ _ h
theorem y_244_15 {m : z_M} {g : z_g} {Q : q_V → q_S → Prop} {a1 a2 s0 : Int} (h :
    z_C 247 [.inr (.inr 131), .inl s0, .inl (0 : Int)] (z_st m g) (fun v S => z_T 244 17 [.inr (.inr 131), .inl a1, .inl a2] (q_push v []) S Q)) :
    z_T 244 15 [.inr (.inr 131), .inl a1, .inl a2] [.inl s0, .inr (.inr 131)] (z_st m g) Q := y_wp_T (cd := q_c244) (cs := [4, 8, 11, 15, 17]) (ng := []) (sy := []) rfl 300 15 _ _ _ _ h
theorem y_244_17 {m : z_M} {g : z_g} {Q : q_V → q_S → Prop} {a1 a2 s0 : Int} (h :
    (s0 = 0 ∨ s0 = 1) ∧ Q (.inl s0) (z_st m g)) :
    z_T 244 17 [.inr (.inr 131), .inl a1, .inl a2] [.inl s0] (z_st m g) Q := y_wp_T (cd := q_c244) (cs := [4, 8, 11, 15, 17]) (ng := [17]) (sy := []) rfl 300 17 _ _ _ _ h
theorem y_245P : q_P 245 = (q_c245, 5) := rfl
theorem y_245 {m : z_M} {g : z_g} {Q : q_V → q_S → Prop} {a1 a2 : Int} (h :
    z_C 210 [.inr (.inr 131), .inl a1] (z_st m g) (fun v S => z_T 245 3 [.inr (.inr 131), .inl a1, .inl a2, q_dead, q_dead] (q_push v []) S Q)) :
    z_C 245 [.inr (.inr 131), .inl a1, .inl a2] (z_st m g) Q := y_C_wp (cs := [3, 6, 15, 21, 22, 27, 28, 31]) (ng := []) (sy := []) (n := 300) y_245P h
theorem y_245_3 {m : z_M} {g : z_g} {Q : q_V → q_S → Prop} {a1 a2 s0 : Int} (h :
    z_T 245 6 [.inr (.inr 131), .inl a1, .inl a2, .inl s0, .inl (0 : Int)] [] (z_st m g) Q) :
    z_T 245 3 [.inr (.inr 131), .inl a1, .inl a2, q_dead, q_dead] [.inl s0] (z_st m g) Q := y_wp_T (cd := q_c245) (cs := [3, 6, 15, 21, 22, 27, 28, 31]) (ng := []) (sy := []) rfl 300 3 _ _ _ _ h
theorem y_245_6 {m : z_M} {g : z_g} {Q : q_V → q_S → Prop} {a1 a2 a3 a4 : Int} (h :
    z_ok2 a4 (6 : Int) ∧
    ((6 : Int) ≤ a4 →
      Q q_dead (z_st m g)) ∧
    (a4 < (6 : Int) →
      z_C 192 [.inl a3] (z_st m g) (fun v S => z_T 245 15 [.inr (.inr 131), .inl a1, .inl a2, .inl a3, .inl a4] (q_push v [.inl a4, .inl a4, .inr (.inr 145)]) S Q))) :
    z_T 245 6 [.inr (.inr 131), .inl a1, .inl a2, .inl a3, .inl a4] [] (z_st m g) Q := y_wp_T (cd := q_c245) (cs := [3, 6, 15, 21, 22, 27, 28, 31]) (ng := []) (sy := []) rfl 300 6 _ _ _ _ h
theorem y_245_15 {m : z_M} {g : z_g} {Q : q_V → q_S → Prop} {a1 a2 a3 a4 s0 s1 s2 : Int} (h :
    z_ok2 s1 s0 ∧
    (s0 ≤ s1 →
      z_in s2 6 ∧
      z_T 245 6 [.inr (.inr 131), .inl a1, .inl a2, .inl a3, .inl (a4 + (1 : Int))] [] (z_st (q_upd m 145 ((s2).toNat) (0 : Int)) g) Q) ∧
    (s1 < s0 →
      z_C 198 [.inl a3, .inl a4] (z_st m g) (fun v S => z_T 245 21 [.inr (.inr 131), .inl a1, .inl a2, .inl a3, .inl a4] (q_push v [.inl a1, .inr (.inr 131), .inl s2, .inr (.inr 145)]) S Q))) :
    z_T 245 15 [.inr (.inr 131), .inl a1, .inl a2, .inl a3, .inl a4] [.inl s0, .inl s1, .inl s2, .inr (.inr 145)] (z_st m g) Q := y_wp_T (cd := q_c245) (cs := [3, 6, 15, 21, 22, 27, 28, 31]) (ng := []) (sy := []) rfl 300 15 _ _ _ _ h
theorem y_245_21 {m : z_M} {g : z_g} {Q : q_V → q_S → Prop} {a1 a2 a3 a4 s0 s1 s3 : Int} (h :
    z_C 214 [.inr (.inr 131), .inl s1, .inl s0] (z_st m g) (fun v S => z_T 245 22 [.inr (.inr 131), .inl a1, .inl a2, .inl a3, .inl a4] (q_push v [.inl s3, .inr (.inr 145)]) S Q)) :
    z_T 245 21 [.inr (.inr 131), .inl a1, .inl a2, .inl a3, .inl a4] [.inl s0, .inl s1, .inr (.inr 131), .inl s3, .inr (.inr 145)] (z_st m g) Q := y_wp_T (cd := q_c245) (cs := [3, 6, 15, 21, 22, 27, 28, 31]) (ng := []) (sy := []) rfl 300 21 _ _ _ _ h
theorem y_245_22 {m : z_M} {g : z_g} {Q : q_V → q_S → Prop} {a1 a2 a3 a4 s0 s1 : Int} (h :
    z_C 198 [.inl a3, .inl a4] (z_st m g) (fun v S => z_T 245 27 [.inr (.inr 131), .inl a1, .inl a2, .inl a3, .inl a4] (q_push v [.inl a2, .inr (.inr 131), .inl s0, .inl s1, .inr (.inr 145)]) S Q)) :
    z_T 245 22 [.inr (.inr 131), .inl a1, .inl a2, .inl a3, .inl a4] [.inl s0, .inl s1, .inr (.inr 145)] (z_st m g) Q := y_wp_T (cd := q_c245) (cs := [3, 6, 15, 21, 22, 27, 28, 31]) (ng := []) (sy := []) rfl 300 22 _ _ _ _ h
theorem y_245_27 {m : z_M} {g : z_g} {Q : q_V → q_S → Prop} {a1 a2 a3 a4 s0 s1 s3 s4 : Int} (h :
    z_C 227 [.inr (.inr 131), .inl s1, .inl s0] (z_st m g) (fun v S => z_T 245 28 [.inr (.inr 131), .inl a1, .inl a2, .inl a3, .inl a4] (q_push v [.inl s3, .inl s4, .inr (.inr 145)]) S Q)) :
    z_T 245 27 [.inr (.inr 131), .inl a1, .inl a2, .inl a3, .inl a4] [.inl s0, .inl s1, .inr (.inr 131), .inl s3, .inl s4, .inr (.inr 145)] (z_st m g) Q := y_wp_T (cd := q_c245) (cs := [3, 6, 15, 21, 22, 27, 28, 31]) (ng := []) (sy := []) rfl 300 27 _ _ _ _ h
theorem y_245_28 {m : z_M} {g : z_g} {Q : q_V → q_S → Prop} {a1 a2 a3 a4 s0 s1 s2 : Int} (h :
    z_C 216 [.inr (.inr 131)] (z_st m g) (fun v S => z_T 245 31 [.inr (.inr 131), .inl a1, .inl a2, .inl a3, .inl a4] (q_push v [.inl (s1 * s0), .inl s2, .inr (.inr 145)]) S Q)) :
    z_T 245 28 [.inr (.inr 131), .inl a1, .inl a2, .inl a3, .inl a4] [.inl s0, .inl s1, .inl s2, .inr (.inr 145)] (z_st m g) Q := y_wp_T (cd := q_c245) (cs := [3, 6, 15, 21, 22, 27, 28, 31]) (ng := []) (sy := []) rfl 300 28 _ _ _ _ h
theorem y_245_31 {m : z_M} {g : z_g} {Q : q_V → q_S → Prop} {a1 a2 a3 a4 s0 s1 s2 : Int} (h :
    z_dv s1 s0 ∧
    z_in s2 6 ∧
    z_T 245 6 [.inr (.inr 131), .inl a1, .inl a2, .inl a3, .inl (a4 + (1 : Int))] [] (z_st (q_upd m 145 ((s2).toNat) (s1 % s0)) g) Q) :
    z_T 245 31 [.inr (.inr 131), .inl a1, .inl a2, .inl a3, .inl a4] [.inl s0, .inl s1, .inl s2, .inr (.inr 145)] (z_st m g) Q := y_wp_T (cd := q_c245) (cs := [3, 6, 15, 21, 22, 27, 28, 31]) (ng := []) (sy := []) rfl 300 31 _ _ _ _ h
