/-! segments of the methods (written by wip/whole/segall.py) -/
theorem y_246P : q_P 246 = (q_c246, 7) := rfl
theorem y_246 {m : z_M} {g : z_g} {Q : q_V → q_S → Prop} {a1 a2 a3 : Int} (h :
    z_T 246 2 [.inr (.inr 131), .inl a1, .inl a2, .inl a3, .inl (0 : Int), q_dead, q_dead] [] (z_st m g) Q) :
    z_C 246 [.inr (.inr 131), .inl a1, .inl a2, .inl a3] (z_st m g) Q := y_C_wp (cs := [2, 5, 13, 26, 27, 41, 49, 50, 55]) (ng := []) (sy := []) (n := 300) y_246P h
theorem y_246_2 {m : z_M} {g : z_g} {Q : q_V → q_S → Prop} {a1 a2 a3 a4 : Int} {da5 da6 : q_V} (h :
    z_C 192 [.inl a1] (z_st m g) (fun v S => z_T 246 5 [.inr (.inr 131), .inl a1, .inl a2, .inl a3, .inl a4, da5, da6] (q_push v [.inl a4]) S Q)) :
    z_T 246 2 [.inr (.inr 131), .inl a1, .inl a2, .inl a3, .inl a4, da5, da6] [] (z_st m g) Q := y_wp_T (cd := q_c246) (cs := [2, 5, 13, 26, 27, 41, 49, 50, 55]) (ng := []) (sy := []) rfl 300 2 _ _ _ _ h
theorem y_246_5 {m : z_M} {g : z_g} {Q : q_V → q_S → Prop} {a1 a2 a3 a4 s0 s1 : Int} {da5 da6 : q_V} (h :
    z_ok2 s1 s0 ∧
    (s0 ≤ s1 →
      Q q_dead (z_st m g)) ∧
    (s1 < s0 →
      z_in a4 6 ∧
      z_T 246 13 [.inr (.inr 131), .inl a1, .inl a2, .inl a3, .inl a4, .inl (m 145 ((a4).toNat)), .inl (0 : Int)] [] (z_st m g) Q)) :
    z_T 246 5 [.inr (.inr 131), .inl a1, .inl a2, .inl a3, .inl a4, da5, da6] [.inl s0, .inl s1] (z_st m g) Q := y_wp_T (cd := q_c246) (cs := [2, 5, 13, 26, 27, 41, 49, 50, 55]) (ng := []) (sy := []) rfl 300 5 _ _ _ _ h
theorem y_246_13 {m : z_M} {g : z_g} {Q : q_V → q_S → Prop} {a1 a2 a3 a4 a5 a6 : Int} (h :
    z_ok2 a6 a2 ∧
    (a2 ≤ a6 →
      z_C 192 [.inl a1] (z_st m g) (fun v S => z_T 246 41 [.inr (.inr 131), .inl a1, .inl a2, .inl a3, .inl a4, .inl a5, .inl a6] (q_push v [.inl a2, .inl a3, .inl a5, .inr (.inr 131), .inl a4, .inr (.inr 146)]) S Q)) ∧
    (a6 < a2 →
      z_in a6 4 ∧
      z_C 198 [.inl a1, .inl a4] (z_st m g) (fun v S => z_T 246 26 [.inr (.inr 131), .inl a1, .inl a2, .inl a3, .inl a4, .inl a5, .inl a6] (q_push v [.inl a6, .inl a1, .inl (m 147 ((a6).toNat)), .inl a5]) S Q))) :
    z_T 246 13 [.inr (.inr 131), .inl a1, .inl a2, .inl a3, .inl a4, .inl a5, .inl a6] [] (z_st m g) Q := y_wp_T (cd := q_c246) (cs := [2, 5, 13, 26, 27, 41, 49, 50, 55]) (ng := []) (sy := []) rfl 300 13 _ _ _ _ h
theorem y_246_26 {m : z_M} {g : z_g} {Q : q_V → q_S → Prop} {a1 a2 a3 a4 a5 a6 s0 s1 s2 s3 s4 : Int} (h :
    z_C 205 [.inl s2, .inl s1, .inl s0] (z_st m g) (fun v S => z_T 246 27 [.inr (.inr 131), .inl a1, .inl a2, .inl a3, .inl a4, .inl a5, .inl a6] (q_push v [.inl s3, .inl s4]) S Q)) :
    z_T 246 26 [.inr (.inr 131), .inl a1, .inl a2, .inl a3, .inl a4, .inl a5, .inl a6] [.inl s0, .inl s1, .inl s2, .inl s3, .inl s4] (z_st m g) Q := y_wp_T (cd := q_c246) (cs := [2, 5, 13, 26, 27, 41, 49, 50, 55]) (ng := []) (sy := []) rfl 300 26 _ _ _ _ h
theorem y_246_27 {m : z_M} {g : z_g} {Q : q_V → q_S → Prop} {a1 a2 a3 a4 a5 a6 s0 s1 s2 : Int} (h :
    z_T 246 13 [.inr (.inr 131), .inl a1, .inl a2, .inl a3, .inl a4, .inl (s2 - (s1 * s0)), .inl (a6 + (1 : Int))] [] (z_st m g) Q) :
    z_T 246 27 [.inr (.inr 131), .inl a1, .inl a2, .inl a3, .inl a4, .inl a5, .inl a6] [.inl s0, .inl s1, .inl s2] (z_st m g) Q := y_wp_T (cd := q_c246) (cs := [2, 5, 13, 26, 27, 41, 49, 50, 55]) (ng := []) (sy := []) rfl 300 27 _ _ _ _ h
theorem y_246_41 {m : z_M} {g : z_g} {Q : q_V → q_S → Prop} {a1 a2 a3 a4 a5 a6 s0 s1 s2 s3 s5 : Int} (h :
    z_ok2 s1 (s0 - (2 : Int)) ∧
    ((s0 - (2 : Int)) ≤ s1 →
      z_C 215 [.inr (.inr 131), .inl (s3 - (s2 * (0 : Int)))] (z_st m g) (fun v S => z_T 246 55 [.inr (.inr 131), .inl a1, .inl a2, .inl a3, .inl a4, .inl a5, .inl a6] (q_push v [.inl s5, .inr (.inr 146)]) S Q)) ∧
    (s1 < (s0 - (2 : Int)) →
      z_C 198 [.inl a1, .inl a4] (z_st m g) (fun v S => z_T 246 49 [.inr (.inr 131), .inl a1, .inl a2, .inl a3, .inl a4, .inl a5, .inl a6] (q_push v [.inl a2, .inl a1, .inl s2, .inl s3, .inr (.inr 131), .inl s5, .inr (.inr 146)]) S Q))) :
    z_T 246 41 [.inr (.inr 131), .inl a1, .inl a2, .inl a3, .inl a4, .inl a5, .inl a6] [.inl s0, .inl s1, .inl s2, .inl s3, .inr (.inr 131), .inl s5, .inr (.inr 146)] (z_st m g) Q := y_wp_T (cd := q_c246) (cs := [2, 5, 13, 26, 27, 41, 49, 50, 55]) (ng := []) (sy := []) rfl 300 41 _ _ _ _ h
theorem y_246_49 {m : z_M} {g : z_g} {Q : q_V → q_S → Prop} {a1 a2 a3 a4 a5 a6 s0 s1 s2 s3 s4 s6 : Int} (h :
    z_C 205 [.inl s2, .inl s1, .inl s0] (z_st m g) (fun v S => z_T 246 50 [.inr (.inr 131), .inl a1, .inl a2, .inl a3, .inl a4, .inl a5, .inl a6] (q_push v [.inl s3, .inl s4, .inr (.inr 131), .inl s6, .inr (.inr 146)]) S Q)) :
    z_T 246 49 [.inr (.inr 131), .inl a1, .inl a2, .inl a3, .inl a4, .inl a5, .inl a6] [.inl s0, .inl s1, .inl s2, .inl s3, .inl s4, .inr (.inr 131), .inl s6, .inr (.inr 146)] (z_st m g) Q := y_wp_T (cd := q_c246) (cs := [2, 5, 13, 26, 27, 41, 49, 50, 55]) (ng := []) (sy := []) rfl 300 49 _ _ _ _ h
theorem y_246_50 {m : z_M} {g : z_g} {Q : q_V → q_S → Prop} {a1 a2 a3 a4 a5 a6 s0 s1 s2 s4 : Int} (h :
    z_C 215 [.inr (.inr 131), .inl (s2 - (s1 * s0))] (z_st m g) (fun v S => z_T 246 55 [.inr (.inr 131), .inl a1, .inl a2, .inl a3, .inl a4, .inl a5, .inl a6] (q_push v [.inl s4, .inr (.inr 146)]) S Q)) :
    z_T 246 50 [.inr (.inr 131), .inl a1, .inl a2, .inl a3, .inl a4, .inl a5, .inl a6] [.inl s0, .inl s1, .inl s2, .inr (.inr 131), .inl s4, .inr (.inr 146)] (z_st m g) Q := y_wp_T (cd := q_c246) (cs := [2, 5, 13, 26, 27, 41, 49, 50, 55]) (ng := []) (sy := []) rfl 300 50 _ _ _ _ h
theorem y_246_55 {m : z_M} {g : z_g} {Q : q_V → q_S → Prop} {a1 a2 a3 a4 a5 a6 s0 s1 : Int} (h :
    z_in s1 6 ∧
    z_T 246 2 [.inr (.inr 131), .inl a1, .inl a2, .inl a3, .inl (a4 + (1 : Int)), .inl a5, .inl a6] [] (z_st (q_upd m 146 ((s1).toNat) s0) g) Q) :
    z_T 246 55 [.inr (.inr 131), .inl a1, .inl a2, .inl a3, .inl a4, .inl a5, .inl a6] [.inl s0, .inl s1, .inr (.inr 146)] (z_st m g) Q := y_wp_T (cd := q_c246) (cs := [2, 5, 13, 26, 27, 41, 49, 50, 55]) (ng := []) (sy := []) rfl 300 55 _ _ _ _ h
theorem y_247P : q_P 247 = (q_c247, 10) := rfl
theorem y_247 {m : z_M} {g : z_g} {Q : q_V → q_S → Prop} {a1 a2 : Int} (h :
    z_C 192 [.inl a1] (z_st m g) (fun v S => z_T 247 2 [.inr (.inr 131), .inl a1, .inl a2, q_dead, q_dead, q_dead, q_dead, q_dead, q_dead, q_dead] (q_push v []) S Q)) :
    z_C 247 [.inr (.inr 131), .inl a1, .inl a2] (z_st m g) Q := y_C_wp (cs := [2, 11, 16, 34, 35, 36, 57, 62, 82, 127, 134]) (ng := []) (sy := []) (n := 300) y_247P h
theorem y_247_2 {m : z_M} {g : z_g} {Q : q_V → q_S → Prop} {a1 a2 s0 : Int} (h :
    z_T 247 11 [.inr (.inr 131), .inl a1, .inl a2, .inl s0, .inl ((s0 - (2 : Int)) - a2), .inl (0 : Int), q_dead, q_dead, q_dead, q_dead] [] (z_st m g) Q) :
    z_T 247 2 [.inr (.inr 131), .inl a1, .inl a2, q_dead, q_dead, q_dead, q_dead, q_dead, q_dead, q_dead] [.inl s0] (z_st m g) Q := y_wp_T (cd := q_c247) (cs := [2, 11, 16, 34, 35, 36, 57, 62, 82, 127, 134]) (ng := []) (sy := []) rfl 300 2 _ _ _ _ h
theorem y_247_11 {m : z_M} {g : z_g} {Q : q_V → q_S → Prop} {a1 a2 a3 a4 a5 : Int} {da6 : q_V} (h :
    z_ok2 a5 a3 ∧
    (a3 ≤ a5 →
      z_T 247 57 [.inr (.inr 131), .inl a1, .inl a2, .inl a3, .inl a4, .inl (0 : Int), .inl (0 : Int), q_dead, q_dead, q_dead] [] (z_st m g) Q) ∧
    (a5 < a3 →
      z_T 247 16 [.inr (.inr 131), .inl a1, .inl a2, .inl a3, .inl a4, .inl a5, .inl (0 : Int), q_dead, q_dead, q_dead] [] (z_st m g) Q)) :
    z_T 247 11 [.inr (.inr 131), .inl a1, .inl a2, .inl a3, .inl a4, .inl a5, da6, q_dead, q_dead, q_dead] [] (z_st m g) Q := y_wp_T (cd := q_c247) (cs := [2, 11, 16, 34, 35, 36, 57, 62, 82, 127, 134]) (ng := []) (sy := []) rfl 300 11 _ _ _ _ h
theorem y_247_16 {m : z_M} {g : z_g} {Q : q_V → q_S → Prop} {a1 a2 a3 a4 a5 a6 : Int} (h :
    z_ok2 a6 a4 ∧
    (a4 ≤ a6 →
      z_in a5 6 ∧
      z_in (((6 : Int) * a5) + a4) 36 ∧
      z_T 247 11 [.inr (.inr 131), .inl a1, .inl a2, .inl a3, .inl a4, .inl (a5 + (1 : Int)), .inl a6, q_dead, q_dead, q_dead] [] (z_st (q_upd m 148 ((((6 : Int) * a5) + a4).toNat) (m 146 ((a5).toNat))) g) Q) ∧
    (a6 < a4 →
      z_C 198 [.inl a1, .inl a5] (z_st m g) (fun v S => z_T 247 34 [.inr (.inr 131), .inl a1, .inl a2, .inl a3, .inl a4, .inl a5, .inl a6, q_dead, q_dead, q_dead] (q_push v [.inl (a2 + a6), .inl a1, .inr (.inr 131), .inl (((6 : Int) * a5) + a6), .inr (.inr 148)]) S Q))) :
    z_T 247 16 [.inr (.inr 131), .inl a1, .inl a2, .inl a3, .inl a4, .inl a5, .inl a6, q_dead, q_dead, q_dead] [] (z_st m g) Q := y_wp_T (cd := q_c247) (cs := [2, 11, 16, 34, 35, 36, 57, 62, 82, 127, 134]) (ng := []) (sy := []) rfl 300 16 _ _ _ _ h
theorem y_247_34 {m : z_M} {g : z_g} {Q : q_V → q_S → Prop} {a1 a2 a3 a4 a5 a6 s0 s1 s2 s4 : Int} (h :
    z_C 205 [.inl s2, .inl s1, .inl s0] (z_st m g) (fun v S => z_T 247 35 [.inr (.inr 131), .inl a1, .inl a2, .inl a3, .inl a4, .inl a5, .inl a6, q_dead, q_dead, q_dead] (q_push v [.inr (.inr 131), .inl s4, .inr (.inr 148)]) S Q)) :
    z_T 247 34 [.inr (.inr 131), .inl a1, .inl a2, .inl a3, .inl a4, .inl a5, .inl a6, q_dead, q_dead, q_dead] [.inl s0, .inl s1, .inl s2, .inr (.inr 131), .inl s4, .inr (.inr 148)] (z_st m g) Q := y_wp_T (cd := q_c247) (cs := [2, 11, 16, 34, 35, 36, 57, 62, 82, 127, 134]) (ng := []) (sy := []) rfl 300 34 _ _ _ _ h
theorem y_247_35 {m : z_M} {g : z_g} {Q : q_V → q_S → Prop} {a1 a2 a3 a4 a5 a6 s0 s2 : Int} (h :
    z_C 215 [.inr (.inr 131), .inl s0] (z_st m g) (fun v S => z_T 247 36 [.inr (.inr 131), .inl a1, .inl a2, .inl a3, .inl a4, .inl a5, .inl a6, q_dead, q_dead, q_dead] (q_push v [.inl s2, .inr (.inr 148)]) S Q)) :
    z_T 247 35 [.inr (.inr 131), .inl a1, .inl a2, .inl a3, .inl a4, .inl a5, .inl a6, q_dead, q_dead, q_dead] [.inl s0, .inr (.inr 131), .inl s2, .inr (.inr 148)] (z_st m g) Q := y_wp_T (cd := q_c247) (cs := [2, 11, 16, 34, 35, 36, 57, 62, 82, 127, 134]) (ng := []) (sy := []) rfl 300 35 _ _ _ _ h
theorem y_247_36 {m : z_M} {g : z_g} {Q : q_V → q_S → Prop} {a1 a2 a3 a4 a5 a6 s0 s1 : Int} (h :
    z_in s1 36 ∧
    z_T 247 16 [.inr (.inr 131), .inl a1, .inl a2, .inl a3, .inl a4, .inl a5, .inl (a6 + (1 : Int)), q_dead, q_dead, q_dead] [] (z_st (q_upd m 148 ((s1).toNat) s0) g) Q) :
    z_T 247 36 [.inr (.inr 131), .inl a1, .inl a2, .inl a3, .inl a4, .inl a5, .inl a6, q_dead, q_dead, q_dead] [.inl s0, .inl s1, .inr (.inr 148)] (z_st m g) Q := y_wp_T (cd := q_c247) (cs := [2, 11, 16, 34, 35, 36, 57, 62, 82, 127, 134]) (ng := []) (sy := []) rfl 300 36 _ _ _ _ h
theorem y_247_57 {m : z_M} {g : z_g} {Q : q_V → q_S → Prop} {a1 a2 a3 a4 a5 a6 : Int} {da7 da8 da9 : q_V} (h :
    z_ok2 a6 a4 ∧
    (a4 ≤ a6 →
      z_T 247 134 [.inr (.inr 131), .inl a1, .inl a2, .inl a3, .inl a4, .inl a5, .inl (1 : Int), .inl a5, da8, da9] [] (z_st m g) Q) ∧
    (a6 < a4 →
      z_T 247 62 [.inr (.inr 131), .inl a1, .inl a2, .inl a3, .inl a4, .inl a5, .inl a6, .inl a5, da8, da9] [] (z_st m g) Q)) :
    z_T 247 57 [.inr (.inr 131), .inl a1, .inl a2, .inl a3, .inl a4, .inl a5, .inl a6, da7, da8, da9] [] (z_st m g) Q := y_wp_T (cd := q_c247) (cs := [2, 11, 16, 34, 35, 36, 57, 62, 82, 127, 134]) (ng := []) (sy := []) rfl 300 57 _ _ _ _ h
theorem y_247_62 {m : z_M} {g : z_g} {Q : q_V → q_S → Prop} {a1 a2 a3 a4 a5 a6 a7 : Int} {da8 da9 : q_V} (h :
    z_ok2 a7 a3 ∧
    (a3 ≤ a7 →
      z_ok2 a7 a3 ∧
      (¬ a7 = a3 →
        z_T 247 82 [.inr (.inr 131), .inl a1, .inl a2, .inl a3, .inl a4, .inl a5, .inl a6, .inl a7, .inl (0 : Int), da9] [] (z_st m g) Q) ∧
      (a7 = a3 →
        z_T 247 57 [.inr (.inr 131), .inl a1, .inl a2, .inl a3, .inl a4, .inl a5, .inl (a6 + (1 : Int)), .inl a7, da8, da9] [] (z_st m g) Q)) ∧
    (a7 < a3 →
      z_in (((6 : Int) * a7) + a6) 36 ∧
      z_ok (m 148 ((((6 : Int) * a7) + a6).toNat)) ∧
      (¬ (m 148 ((((6 : Int) * a7) + a6).toNat)) = (0 : Int) →
        z_ok2 a7 a3 ∧
        (¬ a7 = a3 →
          z_T 247 82 [.inr (.inr 131), .inl a1, .inl a2, .inl a3, .inl a4, .inl a5, .inl a6, .inl a7, .inl (0 : Int), da9] [] (z_st m g) Q) ∧
        (a7 = a3 →
          z_T 247 57 [.inr (.inr 131), .inl a1, .inl a2, .inl a3, .inl a4, .inl a5, .inl (a6 + (1 : Int)), .inl a7, da8, da9] [] (z_st m g) Q)) ∧
      ((m 148 ((((6 : Int) * a7) + a6).toNat)) = (0 : Int) →
        z_T 247 62 [.inr (.inr 131), .inl a1, .inl a2, .inl a3, .inl a4, .inl a5, .inl a6, .inl (a7 + (1 : Int)), da8, da9] [] (z_st m g) Q))) :
    z_T 247 62 [.inr (.inr 131), .inl a1, .inl a2, .inl a3, .inl a4, .inl a5, .inl a6, .inl a7, da8, da9] [] (z_st m g) Q := y_wp_T (cd := q_c247) (cs := [2, 11, 16, 34, 35, 36, 57, 62, 82, 127, 134]) (ng := []) (sy := []) rfl 300 62 _ _ _ _ h
theorem y_247_82 {m : z_M} {g : z_g} {Q : q_V → q_S → Prop} {a1 a2 a3 a4 a5 a6 a7 a8 : Int} {da9 : q_V} (h :
    z_ok2 a8 a4 ∧
    (a4 < a8 →
      z_C 248 [.inr (.inr 131), .inl a5, .inl a6, .inl a3, .inl a4] (z_st m g) (fun v S => z_T 247 127 [.inr (.inr 131), .inl a1, .inl a2, .inl a3, .inl a4, .inl a5, .inl a6, .inl a7, .inl a8, da9] (q_push v []) S Q)) ∧
    (a8 ≤ a4 →
      z_in (((6 : Int) * a7) + a8) 36 ∧
      z_in (((6 : Int) * a5) + a8) 36 ∧
      z_in (((6 : Int) * a7) + a8) 36 ∧
      z_in (((6 : Int) * a5) + a8) 36 ∧
      z_T 247 82 [.inr (.inr 131), .inl a1, .inl a2, .inl a3, .inl a4, .inl a5, .inl a6, .inl a7, .inl (a8 + (1 : Int)), .inl (m 148 ((((6 : Int) * a7) + a8).toNat))] [] (z_st (q_upd (q_upd m 148 ((((6 : Int) * a7) + a8).toNat) (m 148 ((((6 : Int) * a5) + a8).toNat))) 148 ((((6 : Int) * a5) + a8).toNat) (m 148 ((((6 : Int) * a7) + a8).toNat))) g) Q)) :
    z_T 247 82 [.inr (.inr 131), .inl a1, .inl a2, .inl a3, .inl a4, .inl a5, .inl a6, .inl a7, .inl a8, da9] [] (z_st m g) Q := y_wp_T (cd := q_c247) (cs := [2, 11, 16, 34, 35, 36, 57, 62, 82, 127, 134]) (ng := []) (sy := []) rfl 300 82 _ _ _ _ h
theorem y_247_127 {m : z_M} {g : z_g} {Q : q_V → q_S → Prop} {a1 a2 a3 a4 a5 a6 a7 a8 : Int} {da9 : q_V} (h :
    z_T 247 57 [.inr (.inr 131), .inl a1, .inl a2, .inl a3, .inl a4, .inl (a5 + (1 : Int)), .inl (a6 + (1 : Int)), .inl a7, .inl a8, da9] [] (z_st m g) Q) :
    z_T 247 127 [.inr (.inr 131), .inl a1, .inl a2, .inl a3, .inl a4, .inl a5, .inl a6, .inl a7, .inl a8, da9] [] (z_st m g) Q := y_wp_T (cd := q_c247) (cs := [2, 11, 16, 34, 35, 36, 57, 62, 82, 127, 134]) (ng := []) (sy := []) rfl 300 127 _ _ _ _ h
theorem y_247_134 {m : z_M} {g : z_g} {Q : q_V → q_S → Prop} {a1 a2 a3 a4 a5 a6 a7 : Int} {da8 da9 : q_V} (h :
    z_ok2 a7 a3 ∧
    (a3 ≤ a7 →
      (a6 = 0 ∨ a6 = 1) ∧ Q (.inl a6) (z_st m g)) ∧
    (a7 < a3 →
      z_in (((6 : Int) * a7) + a4) 36 ∧
      z_ok (m 148 ((((6 : Int) * a7) + a4).toNat)) ∧
      (¬ (m 148 ((((6 : Int) * a7) + a4).toNat)) = (0 : Int) →
        z_T 247 134 [.inr (.inr 131), .inl a1, .inl a2, .inl a3, .inl a4, .inl a5, .inl (q_bin 3 a6 (0 : Int)), .inl (a7 + (1 : Int)), da8, da9] [] (z_st m g) Q) ∧
      ((m 148 ((((6 : Int) * a7) + a4).toNat)) = (0 : Int) →
        z_T 247 134 [.inr (.inr 131), .inl a1, .inl a2, .inl a3, .inl a4, .inl a5, .inl (q_bin 3 a6 (1 : Int)), .inl (a7 + (1 : Int)), da8, da9] [] (z_st m g) Q))) :
    z_T 247 134 [.inr (.inr 131), .inl a1, .inl a2, .inl a3, .inl a4, .inl a5, .inl a6, .inl a7, da8, da9] [] (z_st m g) Q := y_wp_T (cd := q_c247) (cs := [2, 11, 16, 34, 35, 36, 57, 62, 82, 127, 134]) (ng := [155]) (sy := []) rfl 300 134 _ _ _ _ h
theorem y_248P : q_P 248 = (q_c248, 9) := rfl
theorem y_248 {m : z_M} {g : z_g} {Q : q_V → q_S → Prop} {a1 a2 a3 a4 : Int} (h :
    z_in (((6 : Int) * a1) + a2) 36 ∧
    z_C 226 [.inr (.inr 131), .inl (m 148 ((((6 : Int) * a1) + a2).toNat))] (z_st m g) (fun v S => z_T 248 10 [.inr (.inr 131), .inl a1, .inl a2, .inl a3, .inl a4, q_dead, q_dead, q_dead, q_dead] (q_push v []) S Q)) :
    z_C 248 [.inr (.inr 131), .inl a1, .inl a2, .inl a3, .inl a4] (z_st m g) Q := y_C_wp (cs := [10, 15, 30, 34, 65]) (ng := []) (sy := []) (n := 300) y_248P h
theorem y_248_10 {m : z_M} {g : z_g} {Q : q_V → q_S → Prop} {a1 a2 a3 a4 s0 : Int} (h :
    z_T 248 15 [.inr (.inr 131), .inl a1, .inl a2, .inl a3, .inl a4, .inl s0, .inl (a1 + (1 : Int)), q_dead, q_dead] [] (z_st m g) Q) :
    z_T 248 10 [.inr (.inr 131), .inl a1, .inl a2, .inl a3, .inl a4, q_dead, q_dead, q_dead, q_dead] [.inl s0] (z_st m g) Q := y_wp_T (cd := q_c248) (cs := [10, 15, 30, 34, 65]) (ng := []) (sy := []) rfl 300 10 _ _ _ _ h
theorem y_248_15 {m : z_M} {g : z_g} {Q : q_V → q_S → Prop} {a1 a2 a3 a4 a5 a6 : Int} {da7 da8 : q_V} (h :
    z_ok2 a6 a3 ∧
    (a3 ≤ a6 →
      Q q_dead (z_st m g)) ∧
    (a6 < a3 →
      z_in (((6 : Int) * a6) + a2) 36 ∧
      z_C 216 [.inr (.inr 131)] (z_st m g) (fun v S => z_T 248 30 [.inr (.inr 131), .inl a1, .inl a2, .inl a3, .inl a4, .inl a5, .inl a6, da7, da8] (q_push v [.inl ((m 148 ((((6 : Int) * a6) + a2).toNat)) * a5)]) S Q))) :
    z_T 248 15 [.inr (.inr 131), .inl a1, .inl a2, .inl a3, .inl a4, .inl a5, .inl a6, da7, da8] [] (z_st m g) Q := y_wp_T (cd := q_c248) (cs := [10, 15, 30, 34, 65]) (ng := []) (sy := []) rfl 300 15 _ _ _ _ h
theorem y_248_30 {m : z_M} {g : z_g} {Q : q_V → q_S → Prop} {a1 a2 a3 a4 a5 a6 s0 s1 : Int} {da7 da8 : q_V} (h :
    z_dv s1 s0 ∧
    z_T 248 34 [.inr (.inr 131), .inl a1, .inl a2, .inl a3, .inl a4, .inl a5, .inl a6, .inl (s1 % s0), .inl a2] [] (z_st m g) Q) :
    z_T 248 30 [.inr (.inr 131), .inl a1, .inl a2, .inl a3, .inl a4, .inl a5, .inl a6, da7, da8] [.inl s0, .inl s1] (z_st m g) Q := y_wp_T (cd := q_c248) (cs := [10, 15, 30, 34, 65]) (ng := []) (sy := []) rfl 300 30 _ _ _ _ h
theorem y_248_34 {m : z_M} {g : z_g} {Q : q_V → q_S → Prop} {a1 a2 a3 a4 a5 a6 a7 a8 : Int} (h :
    z_ok2 a8 a4 ∧
    (a4 < a8 →
      z_T 248 15 [.inr (.inr 131), .inl a1, .inl a2, .inl a3, .inl a4, .inl a5, .inl (a6 + (1 : Int)), .inl a7, .inl a8] [] (z_st m g) Q) ∧
    (a8 ≤ a4 →
      z_in (((6 : Int) * a6) + a8) 36 ∧
      z_in (((6 : Int) * a1) + a8) 36 ∧
      z_C 215 [.inr (.inr 131), .inl ((m 148 ((((6 : Int) * a6) + a8).toNat)) - (a7 * (m 148 ((((6 : Int) * a1) + a8).toNat))))] (z_st m g) (fun v S => z_T 248 65 [.inr (.inr 131), .inl a1, .inl a2, .inl a3, .inl a4, .inl a5, .inl a6, .inl a7, .inl a8] (q_push v [.inl (((6 : Int) * a6) + a8), .inr (.inr 148)]) S Q))) :
    z_T 248 34 [.inr (.inr 131), .inl a1, .inl a2, .inl a3, .inl a4, .inl a5, .inl a6, .inl a7, .inl a8] [] (z_st m g) Q := y_wp_T (cd := q_c248) (cs := [10, 15, 30, 34, 65]) (ng := []) (sy := []) rfl 300 34 _ _ _ _ h
theorem y_248_65 {m : z_M} {g : z_g} {Q : q_V → q_S → Prop} {a1 a2 a3 a4 a5 a6 a7 a8 s0 s1 : Int} (h :
    z_in s1 36 ∧
    z_T 248 34 [.inr (.inr 131), .inl a1, .inl a2, .inl a3, .inl a4, .inl a5, .inl a6, .inl a7, .inl (a8 + (1 : Int))] [] (z_st (q_upd m 148 ((s1).toNat) s0) g) Q) :
    z_T 248 65 [.inr (.inr 131), .inl a1, .inl a2, .inl a3, .inl a4, .inl a5, .inl a6, .inl a7, .inl a8] [.inl s0, .inl s1, .inr (.inr 148)] (z_st m g) Q := y_wp_T (cd := q_c248) (cs := [10, 15, 30, 34, 65]) (ng := []) (sy := []) rfl 300 65 _ _ _ _ h
theorem y_249P : q_P 249 = (q_c249, 4) := rfl
theorem y_249 {m : z_M} {g : z_g} {Q : q_V → q_S → Prop} {a1 a2 a3 : Int} (h :
    z_C 209 [.inr (.inr 131), .inl a1] (z_st m g) (fun v S => z_T 249 3 [.inr (.inr 131), .inl a1, .inl a2, .inl a3] (q_push v []) S Q)) :
    z_C 249 [.inr (.inr 131), .inl a1, .inl a2, .inl a3] (z_st m g) Q := y_C_wp (cs := [3, 9, 10, 13, 19, 26, 33, 34]) (ng := []) (sy := []) (n := 300) y_249P h
theorem y_249_3 {m : z_M} {g : z_g} {Q : q_V → q_S → Prop} {a1 a2 a3 s0 : Int} (h :
    z_ok s0 ∧
    (s0 = (0 : Int) →
      Q (.inl (-1 : Int)) (z_st m g)) ∧
    (¬ s0 = (0 : Int) →
      z_C 210 [.inr (.inr 131), .inl a1] (z_st m g) (fun v S => z_T 249 9 [.inr (.inr 131), .inl a1, .inl a2, .inl a3] (q_push v [.inl (0 : Int), .inl a3]) S Q))) :
    z_T 249 3 [.inr (.inr 131), .inl a1, .inl a2, .inl a3] [.inl s0] (z_st m g) Q := y_wp_T (cd := q_c249) (cs := [3, 9, 10, 13, 19, 26, 33, 34]) (ng := []) (sy := []) rfl 300 3 _ _ _ _ h
theorem y_249_9 {m : z_M} {g : z_g} {Q : q_V → q_S → Prop} {a1 a2 a3 s0 s1 s2 : Int} (h :
    z_C 192 [.inl s0] (z_st m g) (fun v S => z_T 249 10 [.inr (.inr 131), .inl a1, .inl a2, .inl a3] (q_push v [.inl s1, .inl s2]) S Q)) :
    z_T 249 9 [.inr (.inr 131), .inl a1, .inl a2, .inl a3] [.inl s0, .inl s1, .inl s2] (z_st m g) Q := y_wp_T (cd := q_c249) (cs := [3, 9, 10, 13, 19, 26, 33, 34]) (ng := []) (sy := []) rfl 300 9 _ _ _ _ h
theorem y_249_10 {m : z_M} {g : z_g} {Q : q_V → q_S → Prop} {a1 a2 a3 s0 s1 s2 : Int} (h :
    z_C 188 [.inl s2, .inl s1, .inl (s0 - (3 : Int))] (z_st m g) (fun v S => z_T 249 13 [.inr (.inr 131), .inl a1, .inl a2, .inl a3] (q_push v []) S Q)) :
    z_T 249 10 [.inr (.inr 131), .inl a1, .inl a2, .inl a3] [.inl s0, .inl s1, .inl s2] (z_st m g) Q := y_wp_T (cd := q_c249) (cs := [3, 9, 10, 13, 19, 26, 33, 34]) (ng := []) (sy := []) rfl 300 10 _ _ _ _ h
theorem y_249_13 {m : z_M} {g : z_g} {Q : q_V → q_S → Prop} {a1 a2 a3 s0 : Int} (h :
    z_ok s0 ∧
    (¬ s0 = (0 : Int) →
      z_C 242 [.inr (.inr 131), .inl a2] (z_st m g) (fun v S => z_T 249 19 [.inr (.inr 131), .inl a1, .inl a2, .inl a3] (q_push v []) S Q)) ∧
    (s0 = (0 : Int) →
      Q (.inl (-1 : Int)) (z_st m g))) :
    z_T 249 13 [.inr (.inr 131), .inl a1, .inl a2, .inl a3] [.inl s0] (z_st m g) Q := y_wp_T (cd := q_c249) (cs := [3, 9, 10, 13, 19, 26, 33, 34]) (ng := []) (sy := []) rfl 300 13 _ _ _ _ h
theorem y_249_19 {m : z_M} {g : z_g} {Q : q_V → q_S → Prop} {a1 a2 a3 s0 : Int} (h :
    z_ok s0 ∧
    (¬ s0 = (0 : Int) →
      z_C 244 [.inr (.inr 131), .inl a1, .inl a2] (z_st m g) (fun v S => z_T 249 26 [.inr (.inr 131), .inl a1, .inl a2, .inl a3] (q_push v []) S Q)) ∧
    (s0 = (0 : Int) →
      Q (.inl (-2 : Int)) (z_st m g))) :
    z_T 249 19 [.inr (.inr 131), .inl a1, .inl a2, .inl a3] [.inl s0] (z_st m g) Q := y_wp_T (cd := q_c249) (cs := [3, 9, 10, 13, 19, 26, 33, 34]) (ng := []) (sy := []) rfl 300 19 _ _ _ _ h
theorem y_249_26 {m : z_M} {g : z_g} {Q : q_V → q_S → Prop} {a1 a2 a3 s0 : Int} (h :
    z_ok s0 ∧
    (¬ s0 = (0 : Int) →
      z_C 210 [.inr (.inr 131), .inl a1] (z_st m g) (fun v S => z_T 249 33 [.inr (.inr 131), .inl a1, .inl a2, .inl a3] (q_push v [.inr (.inr 131)]) S Q)) ∧
    (s0 = (0 : Int) →
      Q (.inl (-5 : Int)) (z_st m g))) :
    z_T 249 26 [.inr (.inr 131), .inl a1, .inl a2, .inl a3] [.inl s0] (z_st m g) Q := y_wp_T (cd := q_c249) (cs := [3, 9, 10, 13, 19, 26, 33, 34]) (ng := []) (sy := []) rfl 300 26 _ _ _ _ h
theorem y_249_33 {m : z_M} {g : z_g} {Q : q_V → q_S → Prop} {a1 a2 a3 s0 : Int} (h :
    z_C 250 [.inr (.inr 131), .inl s0] (z_st m g) (fun v S => z_T 249 34 [.inr (.inr 131), .inl a1, .inl a2, .inl a3] (q_push v []) S Q)) :
    z_T 249 33 [.inr (.inr 131), .inl a1, .inl a2, .inl a3] [.inl s0, .inr (.inr 131)] (z_st m g) Q := y_wp_T (cd := q_c249) (cs := [3, 9, 10, 13, 19, 26, 33, 34]) (ng := []) (sy := []) rfl 300 33 _ _ _ _ h
theorem y_249_34 {m : z_M} {g : z_g} {Q : q_V → q_S → Prop} {a1 a2 a3 : Int} (h :
    z_in a3 4 ∧
    Q (.inl (m 147 ((a3).toNat))) (z_st m g)) :
    z_T 249 34 [.inr (.inr 131), .inl a1, .inl a2, .inl a3] [] (z_st m g) Q := y_wp_T (cd := q_c249) (cs := [3, 9, 10, 13, 19, 26, 33, 34]) (ng := []) (sy := []) rfl 300 34 _ _ _ _ h
theorem y_250P : q_P 250 = (q_c250, 4) := rfl
theorem y_250 {m : z_M} {g : z_g} {Q : q_V → q_S → Prop} {a1 : Int} (h :
    z_T 250 2 [.inr (.inr 131), .inl a1, .inl (0 : Int), q_dead] [] (z_st m g) Q) :
    z_C 250 [.inr (.inr 131), .inl a1] (z_st m g) Q := y_C_wp (cs := [2, 5, 15, 21, 28]) (ng := []) (sy := []) (n := 300) y_250P h
theorem y_250_2 {m : z_M} {g : z_g} {Q : q_V → q_S → Prop} {a1 a2 : Int} {da3 : q_V} (h :
    z_C 192 [.inl a1] (z_st m g) (fun v S => z_T 250 5 [.inr (.inr 131), .inl a1, .inl a2, da3] (q_push v [.inl a2]) S Q)) :
    z_T 250 2 [.inr (.inr 131), .inl a1, .inl a2, da3] [] (z_st m g) Q := y_wp_T (cd := q_c250) (cs := [2, 5, 15, 21, 28]) (ng := []) (sy := []) rfl 300 2 _ _ _ _ h
theorem y_250_5 {m : z_M} {g : z_g} {Q : q_V → q_S → Prop} {a1 a2 s0 s1 : Int} {da3 : q_V} (h :
    z_ok2 s1 (s0 - (2 : Int)) ∧
    ((s0 - (2 : Int)) ≤ s1 →
      Q q_dead (z_st m g)) ∧
    (s1 < (s0 - (2 : Int)) →
      z_C 246 [.inr (.inr 131), .inl a1, .inl a2, .inl (0 : Int)] (z_st m g) (fun v S => z_T 250 15 [.inr (.inr 131), .inl a1, .inl a2, .inl (0 : Int)] (q_push v []) S Q))) :
    z_T 250 5 [.inr (.inr 131), .inl a1, .inl a2, da3] [.inl s0, .inl s1] (z_st m g) Q := y_wp_T (cd := q_c250) (cs := [2, 5, 15, 21, 28]) (ng := []) (sy := []) rfl 300 5 _ _ _ _ h
theorem y_250_15 {m : z_M} {g : z_g} {Q : q_V → q_S → Prop} {a1 a2 a3 : Int} (h :
    z_C 247 [.inr (.inr 131), .inl a1, .inl (a2 + (1 : Int))] (z_st m g) (fun v S => z_T 250 21 [.inr (.inr 131), .inl a1, .inl a2, .inl a3] (q_push v []) S Q)) :
    z_T 250 15 [.inr (.inr 131), .inl a1, .inl a2, .inl a3] [] (z_st m g) Q := y_wp_T (cd := q_c250) (cs := [2, 5, 15, 21, 28]) (ng := []) (sy := []) rfl 300 15 _ _ _ _ h
theorem y_250_21 {m : z_M} {g : z_g} {Q : q_V → q_S → Prop} {a1 a2 a3 s0 : Int} (h :
    z_ok s0 ∧
    (¬ s0 = (0 : Int) →
      z_in a2 4 ∧
      z_T 250 2 [.inr (.inr 131), .inl a1, .inl (a2 + (1 : Int)), .inl a3] [] (z_st (q_upd m 147 ((a2).toNat) a3) g) Q) ∧
    (s0 = (0 : Int) →
      z_C 246 [.inr (.inr 131), .inl a1, .inl a2, .inl (a3 + (1 : Int))] (z_st m g) (fun v S => z_T 250 28 [.inr (.inr 131), .inl a1, .inl a2, .inl (a3 + (1 : Int))] (q_push v []) S Q))) :
    z_T 250 21 [.inr (.inr 131), .inl a1, .inl a2, .inl a3] [.inl s0] (z_st m g) Q := y_wp_T (cd := q_c250) (cs := [2, 5, 15, 21, 28]) (ng := []) (sy := []) rfl 300 21 _ _ _ _ h
theorem y_250_28 {m : z_M} {g : z_g} {Q : q_V → q_S → Prop} {a1 a2 a3 : Int} (h :
    z_T 250 15 [.inr (.inr 131), .inl a1, .inl a2, .inl a3] [] (z_st m g) Q) :
    z_T 250 28 [.inr (.inr 131), .inl a1, .inl a2, .inl a3] [] (z_st m g) Q := y_wp_T (cd := q_c250) (cs := [2, 5, 15, 21, 28]) (ng := []) (sy := []) rfl 300 28 _ _ _ _ h
theorem y_251P : q_P 251 = (q_c251, 4) := rfl
theorem y_251 {m : z_M} {g : z_g} {Q : q_V → q_S → Prop} {a1 a2 : Int} (h :
    z_C 209 [.inr (.inr 131), .inl a1] (z_st m g) (fun v S => z_T 251 3 [.inr (.inr 131), .inl a1, .inl a2, q_dead] (q_push v []) S Q)) :
    z_C 251 [.inr (.inr 131), .inl a1, .inl a2] (z_st m g) Q := y_C_wp (cs := [3, 9, 18, 21, 28, 29, 33, 40, 41, 45, 53, 58, 67, 68, 69]) (ng := []) (sy := []) (n := 300) y_251P h
theorem y_251_3 {m : z_M} {g : z_g} {Q : q_V → q_S → Prop} {a1 a2 s0 : Int} (h :
    z_ok s0 ∧
    (¬ s0 = (0 : Int) →
      z_C 242 [.inr (.inr 131), .inl a2] (z_st m g) (fun v S => z_T 251 9 [.inr (.inr 131), .inl a1, .inl a2, q_dead] (q_push v []) S Q)) ∧
    (s0 = (0 : Int) →
      Q (.inl (-1 : Int)) (z_st m g))) :
    z_T 251 3 [.inr (.inr 131), .inl a1, .inl a2, q_dead] [.inl s0] (z_st m g) Q := y_wp_T (cd := q_c251) (cs := [3, 9, 18, 21, 28, 29, 33, 40, 41, 45, 53, 58, 67, 68, 69]) (ng := []) (sy := []) rfl 300 3 _ _ _ _ h
theorem y_251_9 {m : z_M} {g : z_g} {Q : q_V → q_S → Prop} {a1 a2 s0 : Int} (h :
    z_ok s0 ∧
    (¬ s0 = (0 : Int) →
      z_C 213 [.inr (.inr 131), .inl a1] (z_st (q_upd m 131 25 (0 : Int)) g) (fun v S => z_T 251 18 [.inr (.inr 131), .inl a1, .inl a2, q_dead] (q_push v []) S Q)) ∧
    (s0 = (0 : Int) →
      Q (.inl (-2 : Int)) (z_st m g))) :
    z_T 251 9 [.inr (.inr 131), .inl a1, .inl a2, q_dead] [.inl s0] (z_st m g) Q := y_wp_T (cd := q_c251) (cs := [3, 9, 18, 21, 28, 29, 33, 40, 41, 45, 53, 58, 67, 68, 69]) (ng := []) (sy := []) rfl 300 9 _ _ _ _ h
theorem y_251_18 {m : z_M} {g : z_g} {Q : q_V → q_S → Prop} {a1 a2 : Int} (h :
    z_C 230 [.inr (.inr 131), .inl a2] (z_st m g) (fun v S => z_T 251 21 [.inr (.inr 131), .inl a1, .inl a2, q_dead] (q_push v []) S Q)) :
    z_T 251 18 [.inr (.inr 131), .inl a1, .inl a2, q_dead] [] (z_st m g) Q := y_wp_T (cd := q_c251) (cs := [3, 9, 18, 21, 28, 29, 33, 40, 41, 45, 53, 58, 67, 68, 69]) (ng := []) (sy := []) rfl 300 18 _ _ _ _ h
theorem y_251_21 {m : z_M} {g : z_g} {Q : q_V → q_S → Prop} {a1 a2 s0 : Int} (h :
    z_ok s0 ∧
    (s0 = (0 : Int) →
      z_C 231 [.inr (.inr 131), .inl a2] (z_st m g) (fun v S => z_T 251 33 [.inr (.inr 131), .inl a1, .inl a2, q_dead] (q_push v []) S Q)) ∧
    (¬ s0 = (0 : Int) →
      z_C 230 [.inr (.inr 131), .inl a2] (z_st m g) (fun v S => z_T 251 28 [.inr (.inr 131), .inl a1, .inl a2, q_dead] (q_push v [.inl (1 : Int), .inl a1, .inr (.inr 131)]) S Q))) :
    z_T 251 21 [.inr (.inr 131), .inl a1, .inl a2, q_dead] [.inl s0] (z_st m g) Q := y_wp_T (cd := q_c251) (cs := [3, 9, 18, 21, 28, 29, 33, 40, 41, 45, 53, 58, 67, 68, 69]) (ng := []) (sy := []) rfl 300 21 _ _ _ _ h
theorem y_251_28 {m : z_M} {g : z_g} {Q : q_V → q_S → Prop} {a1 a2 s0 s1 s2 : Int} (h :
    z_C 252 [.inr (.inr 131), .inl s2, .inl s1, .inl s0] (z_st m g) (fun v S => z_T 251 29 [.inr (.inr 131), .inl a1, .inl a2, q_dead] (q_push v []) S Q)) :
    z_T 251 28 [.inr (.inr 131), .inl a1, .inl a2, q_dead] [.inl s0, .inl s1, .inl s2, .inr (.inr 131)] (z_st m g) Q := y_wp_T (cd := q_c251) (cs := [3, 9, 18, 21, 28, 29, 33, 40, 41, 45, 53, 58, 67, 68, 69]) (ng := []) (sy := []) rfl 300 28 _ _ _ _ h
theorem y_251_29 {m : z_M} {g : z_g} {Q : q_V → q_S → Prop} {a1 a2 s0 : Int} (h :
    Q (.inl s0) (z_st m g)) :
    z_T 251 29 [.inr (.inr 131), .inl a1, .inl a2, q_dead] [.inl s0] (z_st m g) Q := y_wp_T (cd := q_c251) (cs := [3, 9, 18, 21, 28, 29, 33, 40, 41, 45, 53, 58, 67, 68, 69]) (ng := []) (sy := []) rfl 300 29 _ _ _ _ h
theorem y_251_33 {m : z_M} {g : z_g} {Q : q_V → q_S → Prop} {a1 a2 s0 : Int} (h :
    z_ok s0 ∧
    (s0 = (0 : Int) →
      z_C 236 [.inr (.inr 131), .inl a1] (z_st m g) (fun v S => z_T 251 45 [.inr (.inr 131), .inl a1, .inl a2, q_dead] (q_push v []) S Q)) ∧
    (¬ s0 = (0 : Int) →
      z_C 231 [.inr (.inr 131), .inl a2] (z_st m g) (fun v S => z_T 251 40 [.inr (.inr 131), .inl a1, .inl a2, q_dead] (q_push v [.inl (2 : Int), .inl a1, .inr (.inr 131)]) S Q))) :
    z_T 251 33 [.inr (.inr 131), .inl a1, .inl a2, q_dead] [.inl s0] (z_st m g) Q := y_wp_T (cd := q_c251) (cs := [3, 9, 18, 21, 28, 29, 33, 40, 41, 45, 53, 58, 67, 68, 69]) (ng := []) (sy := []) rfl 300 33 _ _ _ _ h
theorem y_251_40 {m : z_M} {g : z_g} {Q : q_V → q_S → Prop} {a1 a2 s0 s1 s2 : Int} (h :
    z_C 252 [.inr (.inr 131), .inl s2, .inl s1, .inl s0] (z_st m g) (fun v S => z_T 251 41 [.inr (.inr 131), .inl a1, .inl a2, q_dead] (q_push v []) S Q)) :
    z_T 251 40 [.inr (.inr 131), .inl a1, .inl a2, q_dead] [.inl s0, .inl s1, .inl s2, .inr (.inr 131)] (z_st m g) Q := y_wp_T (cd := q_c251) (cs := [3, 9, 18, 21, 28, 29, 33, 40, 41, 45, 53, 58, 67, 68, 69]) (ng := []) (sy := []) rfl 300 40 _ _ _ _ h
theorem y_251_41 {m : z_M} {g : z_g} {Q : q_V → q_S → Prop} {a1 a2 s0 : Int} (h :
    Q (.inl s0) (z_st m g)) :
    z_T 251 41 [.inr (.inr 131), .inl a1, .inl a2, q_dead] [.inl s0] (z_st m g) Q := y_wp_T (cd := q_c251) (cs := [3, 9, 18, 21, 28, 29, 33, 40, 41, 45, 53, 58, 67, 68, 69]) (ng := []) (sy := []) rfl 300 41 _ _ _ _ h
theorem y_251_45 {m : z_M} {g : z_g} {Q : q_V → q_S → Prop} {a1 a2 s0 : Int} (h :
    z_ok s0 ∧
    (s0 = (0 : Int) →
      z_C 244 [.inr (.inr 131), .inl a1, .inl a2] (z_st m g) (fun v S => z_T 251 58 [.inr (.inr 131), .inl a1, .inl a2, .inl s0] (q_push v []) S Q)) ∧
    (¬ s0 = (0 : Int) →
      z_C 252 [.inr (.inr 131), .inl a1, .inl (3 : Int), .inl s0] (z_st m g) (fun v S => z_T 251 53 [.inr (.inr 131), .inl a1, .inl a2, .inl s0] (q_push v []) S Q))) :
    z_T 251 45 [.inr (.inr 131), .inl a1, .inl a2, q_dead] [.inl s0] (z_st m g) Q := y_wp_T (cd := q_c251) (cs := [3, 9, 18, 21, 28, 29, 33, 40, 41, 45, 53, 58, 67, 68, 69]) (ng := []) (sy := []) rfl 300 45 _ _ _ _ h
theorem y_251_53 {m : z_M} {g : z_g} {Q : q_V → q_S → Prop} {a1 a2 a3 s0 : Int} (h :
    Q (.inl s0) (z_st m g)) :
    z_T 251 53 [.inr (.inr 131), .inl a1, .inl a2, .inl a3] [.inl s0] (z_st m g) Q := y_wp_T (cd := q_c251) (cs := [3, 9, 18, 21, 28, 29, 33, 40, 41, 45, 53, 58, 67, 68, 69]) (ng := []) (sy := []) rfl 300 53 _ _ _ _ h
theorem y_251_58 {m : z_M} {g : z_g} {Q : q_V → q_S → Prop} {a1 a2 a3 s0 : Int} (h :
    z_ok s0 ∧
    (s0 = (0 : Int) →
      z_C 210 [.inr (.inr 131), .inl a1] (z_st m g) (fun v S => z_T 251 67 [.inr (.inr 131), .inl a1, .inl a2, .inl a3] (q_push v [.inl (4 : Int), .inl a1, .inr (.inr 131)]) S Q)) ∧
    (¬ s0 = (0 : Int) →
      z_T 251 69 [.inr (.inr 131), .inl a1, .inl a2, .inl a3] [.inl (0 : Int)] (z_st m g) Q)) :
    z_T 251 58 [.inr (.inr 131), .inl a1, .inl a2, .inl a3] [.inl s0] (z_st m g) Q := y_wp_T (cd := q_c251) (cs := [3, 9, 18, 21, 28, 29, 33, 40, 41, 45, 53, 58, 67, 68, 69]) (ng := []) (sy := []) rfl 300 58 _ _ _ _ h
theorem y_251_67 {m : z_M} {g : z_g} {Q : q_V → q_S → Prop} {a1 a2 a3 s0 s1 s2 : Int} (h :
    z_C 192 [.inl s0] (z_st m g) (fun v S => z_T 251 68 [.inr (.inr 131), .inl a1, .inl a2, .inl a3] (q_push v [.inl s1, .inl s2, .inr (.inr 131)]) S Q)) :
    z_T 251 67 [.inr (.inr 131), .inl a1, .inl a2, .inl a3] [.inl s0, .inl s1, .inl s2, .inr (.inr 131)] (z_st m g) Q := y_wp_T (cd := q_c251) (cs := [3, 9, 18, 21, 28, 29, 33, 40, 41, 45, 53, 58, 67, 68, 69]) (ng := []) (sy := []) rfl 300 67 _ _ _ _ h
theorem y_251_68 {m : z_M} {g : z_g} {Q : q_V → q_S → Prop} {a1 a2 a3 s0 s1 s2 : Int} (h :
    z_C 252 [.inr (.inr 131), .inl s2, .inl s1, .inl s0] (z_st m g) (fun v S => z_T 251 69 [.inr (.inr 131), .inl a1, .inl a2, .inl a3] (q_push v []) S Q)) :
    z_T 251 68 [.inr (.inr 131), .inl a1, .inl a2, .inl a3] [.inl s0, .inl s1, .inl s2, .inr (.inr 131)] (z_st m g) Q := y_wp_T (cd := q_c251) (cs := [3, 9, 18, 21, 28, 29, 33, 40, 41, 45, 53, 58, 67, 68, 69]) (ng := []) (sy := []) rfl 300 68 _ _ _ _ h
theorem y_251_69 {m : z_M} {g : z_g} {Q : q_V → q_S → Prop} {a1 a2 a3 s0 : Int} (h :
    Q (.inl s0) (z_st m g)) :
    z_T 251 69 [.inr (.inr 131), .inl a1, .inl a2, .inl a3] [.inl s0] (z_st m g) Q := y_wp_T (cd := q_c251) (cs := [3, 9, 18, 21, 28, 29, 33, 40, 41, 45, 53, 58, 67, 68, 69]) (ng := []) (sy := []) rfl 300 69 _ _ _ _ h
theorem y_252P : q_P 252 = (q_c252, 4) := rfl
theorem y_252 {m : z_M} {g : z_g} {Q : q_V → q_S → Prop} {a1 a2 a3 : Int} (h :
    z_C 253 [.inr (.inr 131), .inl (10 : Int), .inl a1] (z_st m g) (fun v S => z_T 252 4 [.inr (.inr 131), .inl a1, .inl a2, .inl a3] (q_push v []) S Q)) :
    z_C 252 [.inr (.inr 131), .inl a1, .inl a2, .inl a3] (z_st m g) Q := y_C_wp (cs := [4, 8, 16, 17, 18, 26, 27, 28]) (ng := []) (sy := []) (n := 300) y_252P h
theorem y_252_4 {m : z_M} {g : z_g} {Q : q_V → q_S → Prop} {a1 a2 a3 : Int} (h :
    z_C 253 [.inr (.inr 131), .inl a2, .inl a3] (z_st m g) (fun v S => z_T 252 8 [.inr (.inr 131), .inl a1, .inl a2, .inl a3] (q_push v []) S Q)) :
    z_T 252 4 [.inr (.inr 131), .inl a1, .inl a2, .inl a3] [] (z_st m g) Q := y_wp_T (cd := q_c252) (cs := [4, 8, 16, 17, 18, 26, 27, 28]) (ng := []) (sy := []) rfl 300 4 _ _ _ _ h
theorem y_252_8 {m : z_M} {g : z_g} {Q : q_V → q_S → Prop} {a1 a2 a3 : Int} (h :
    z_ok2 a2 (2 : Int) ∧
    (¬ a2 = (2 : Int) →
      z_T 252 18 [.inr (.inr 131), .inl a1, .inl a2, .inl a3] [] (z_st m g) Q) ∧
    (a2 = (2 : Int) →
      z_C 217 [.inr (.inr 131), .inl (2 : Int)] (z_st m g) (fun v S => z_T 252 16 [.inr (.inr 131), .inl a1, .inl a2, .inl a3] (q_push v [.inl (6 : Int), .inr (.inr 131)]) S Q))) :
    z_T 252 8 [.inr (.inr 131), .inl a1, .inl a2, .inl a3] [] (z_st m g) Q := y_wp_T (cd := q_c252) (cs := [4, 8, 16, 17, 18, 26, 27, 28]) (ng := []) (sy := []) rfl 300 8 _ _ _ _ h
theorem y_252_16 {m : z_M} {g : z_g} {Q : q_V → q_S → Prop} {a1 a2 a3 s0 s1 : Int} (h :
    z_C 254 [.inl s0] (z_st m g) (fun v S => z_T 252 17 [.inr (.inr 131), .inl a1, .inl a2, .inl a3] (q_push v [.inl s1, .inr (.inr 131)]) S Q)) :
    z_T 252 16 [.inr (.inr 131), .inl a1, .inl a2, .inl a3] [.inl s0, .inl s1, .inr (.inr 131)] (z_st m g) Q := y_wp_T (cd := q_c252) (cs := [4, 8, 16, 17, 18, 26, 27, 28]) (ng := []) (sy := []) rfl 300 16 _ _ _ _ h
theorem y_252_17 {m : z_M} {g : z_g} {Q : q_V → q_S → Prop} {a1 a2 a3 s0 s1 : Int} (h :
    z_C 253 [.inr (.inr 131), .inl s1, .inl s0] (z_st m g) (fun v S => z_T 252 18 [.inr (.inr 131), .inl a1, .inl a2, .inl a3] (q_push v []) S Q)) :
    z_T 252 17 [.inr (.inr 131), .inl a1, .inl a2, .inl a3] [.inl s0, .inl s1, .inr (.inr 131)] (z_st m g) Q := y_wp_T (cd := q_c252) (cs := [4, 8, 16, 17, 18, 26, 27, 28]) (ng := []) (sy := []) rfl 300 17 _ _ _ _ h
theorem y_252_18 {m : z_M} {g : z_g} {Q : q_V → q_S → Prop} {a1 a2 a3 : Int} (h :
    z_ok2 a2 (4 : Int) ∧
    (¬ a2 = (4 : Int) →
      z_T 252 28 [.inr (.inr 131), .inl a1, .inl a2, .inl a3] [] (z_st m g) Q) ∧
    (a2 = (4 : Int) →
      z_C 217 [.inr (.inr 131), .inl (1 : Int)] (z_st m g) (fun v S => z_T 252 26 [.inr (.inr 131), .inl a1, .inl a2, .inl a3] (q_push v [.inl (7 : Int), .inr (.inr 131)]) S Q))) :
    z_T 252 18 [.inr (.inr 131), .inl a1, .inl a2, .inl a3] [] (z_st m g) Q := y_wp_T (cd := q_c252) (cs := [4, 8, 16, 17, 18, 26, 27, 28]) (ng := []) (sy := []) rfl 300 18 _ _ _ _ h
theorem y_252_26 {m : z_M} {g : z_g} {Q : q_V → q_S → Prop} {a1 a2 a3 s0 s1 : Int} (h :
    z_C 254 [.inl s0] (z_st m g) (fun v S => z_T 252 27 [.inr (.inr 131), .inl a1, .inl a2, .inl a3] (q_push v [.inl s1, .inr (.inr 131)]) S Q)) :
    z_T 252 26 [.inr (.inr 131), .inl a1, .inl a2, .inl a3] [.inl s0, .inl s1, .inr (.inr 131)] (z_st m g) Q := y_wp_T (cd := q_c252) (cs := [4, 8, 16, 17, 18, 26, 27, 28]) (ng := []) (sy := []) rfl 300 26 _ _ _ _ h
theorem y_252_27 {m : z_M} {g : z_g} {Q : q_V → q_S → Prop} {a1 a2 a3 s0 s1 : Int} (h :
    z_C 253 [.inr (.inr 131), .inl s1, .inl s0] (z_st m g) (fun v S => z_T 252 28 [.inr (.inr 131), .inl a1, .inl a2, .inl a3] (q_push v []) S Q)) :
    z_T 252 27 [.inr (.inr 131), .inl a1, .inl a2, .inl a3] [.inl s0, .inl s1, .inr (.inr 131)] (z_st m g) Q := y_wp_T (cd := q_c252) (cs := [4, 8, 16, 17, 18, 26, 27, 28]) (ng := []) (sy := []) rfl 300 27 _ _ _ _ h
theorem y_252_28 {m : z_M} {g : z_g} {Q : q_V → q_S → Prop} {a1 a2 a3 : Int} (h :
    Q (.inl a2) (z_st m g)) :
    z_T 252 28 [.inr (.inr 131), .inl a1, .inl a2, .inl a3] [] (z_st m g) Q := y_wp_T (cd := q_c252) (cs := [4, 8, 16, 17, 18, 26, 27, 28]) (ng := []) (sy := []) rfl 300 28 _ _ _ _ h
theorem y_253P : q_P 253 = (q_c253, 3) := rfl
theorem y_253 {m : z_M} {g : z_g} {Q : q_V → q_S → Prop} {a1 a2 : Int} (h :
    z_in (m 131 25) 3 ∧
    z_in (m 131 25) 3 ∧
    Q q_dead (z_st (q_upd (q_upd (q_upd m 149 ((m 131 25).toNat) a1) 150 ((m 131 25).toNat) a2) 131 25 ((m 131 25) + (1 : Int))) g)) :
    z_C 253 [.inr (.inr 131), .inl a1, .inl a2] (z_st m g) Q := y_C_wp (cs := []) (ng := []) (sy := []) (n := 300) y_253P h
theorem y_254P : q_P 254 = (q_c254, 3) := rfl
theorem y_254 {m : z_M} {g : z_g} {Q : q_V → q_S → Prop} {a0 : Int} (h :
    z_T 254 4 [.inl a0, .inl (0 : Int), .inl (0 : Int)] [] (z_st m g) Q) :
    z_C 254 [.inl a0] (z_st m g) Q := y_C_wp (cs := [4]) (ng := []) (sy := []) (n := 300) y_254P h
theorem y_254_4 {m : z_M} {g : z_g} {Q : q_V → q_S → Prop} {a0 a1 a2 : Int} (h :
    z_ok2 a2 (31 : Int) ∧
    ((31 : Int) ≤ a2 →
      Q (.inl a1) (z_st m g)) ∧
    (a2 < (31 : Int) →
      z_T 254 4 [.inl a0, .inl (a1 + (q_bin 3 (q_bin 7 a0 a2) (1 : Int))), .inl (a2 + (1 : Int))] [] (z_st m g) Q)) :
    z_T 254 4 [.inl a0, .inl a1, .inl a2] [] (z_st m g) Q := y_wp_T (cd := q_c254) (cs := [4]) (ng := []) (sy := []) rfl 300 4 _ _ _ _ h
theorem y_255P : q_P 255 = (q_c255, 3) := rfl
theorem y_255 {m : z_M} {g : z_g} {Q : q_V → q_S → Prop} {a1 a2 : Int} (h :
    z_C 188 [.inl a1, .inl (0 : Int), .inl ((m 131 25) - (1 : Int))] (z_st m g) (fun v S => z_T 255 7 [.inr (.inr 131), .inl a1, .inl a2] (q_push v []) S Q)) :
    z_C 255 [.inr (.inr 131), .inl a1, .inl a2] (z_st m g) Q := y_C_wp (cs := [7, 12]) (ng := []) (sy := []) (n := 300) y_255P h
theorem y_255_7 {m : z_M} {g : z_g} {Q : q_V → q_S → Prop} {a1 a2 s0 : Int} (h :
    z_ok s0 ∧
    (s0 = (0 : Int) →
      Q (.inl (-1 : Int)) (z_st m g)) ∧
    (¬ s0 = (0 : Int) →
      z_C 188 [.inl a2, .inl (0 : Int), .inl (1 : Int)] (z_st m g) (fun v S => z_T 255 12 [.inr (.inr 131), .inl a1, .inl a2] (q_push v []) S Q))) :
    z_T 255 7 [.inr (.inr 131), .inl a1, .inl a2] [.inl s0] (z_st m g) Q := y_wp_T (cd := q_c255) (cs := [7, 12]) (ng := []) (sy := []) rfl 300 7 _ _ _ _ h
theorem y_255_12 {m : z_M} {g : z_g} {Q : q_V → q_S → Prop} {a1 a2 s0 : Int} (h :
    z_ok s0 ∧
    (¬ s0 = (0 : Int) →
      z_ok a2 ∧
      (¬ a2 = (0 : Int) →
        z_in a1 3 ∧
        Q (.inl (m 150 ((a1).toNat))) (z_st m g)) ∧
      (a2 = (0 : Int) →
        z_in a1 3 ∧
        Q (.inl (m 149 ((a1).toNat))) (z_st m g))) ∧
    (s0 = (0 : Int) →
      Q (.inl (-1 : Int)) (z_st m g))) :
    z_T 255 12 [.inr (.inr 131), .inl a1, .inl a2] [.inl s0] (z_st m g) Q := y_wp_T (cd := q_c255) (cs := [7, 12]) (ng := []) (sy := []) rfl 300 12 _ _ _ _ h
theorem y_256P : q_P 256 = (q_c256, 8) := rfl
theorem y_256 {m : z_M} {g : z_g} {Q : q_V → q_S → Prop} {a1 : Int} (h :
    z_C 209 [.inr (.inr 131), .inl a1] (z_st m g) (fun v S => z_T 256 3 [.inr (.inr 131), .inl a1, q_dead, q_dead, q_dead, q_dead, q_dead, q_dead] (q_push v []) S Q)) :
    z_C 256 [.inr (.inr 131), .inl a1] (z_st m g) Q := y_C_wp (cs := [3, 15, 18, 20, 26, 29, 36, 45, 48, 61, 64, 77]) (ng := []) (sy := []) (n := 300) y_256P h
theorem y_256_3 {m : z_M} {g : z_g} {Q : q_V → q_S → Prop} {a1 s0 : Int} (h :
    z_ok s0 ∧
    (¬ s0 = (0 : Int) →
      z_ok2 (m 131 8) (6 : Int) ∧
      (¬ (m 131 8) = (6 : Int) →
        z_C 210 [.inr (.inr 131), .inl a1] (z_st m g) (fun v S => z_T 256 15 [.inr (.inr 131), .inl a1, q_dead, q_dead, q_dead, q_dead, q_dead, q_dead] (q_push v []) S Q)) ∧
      ((m 131 8) = (6 : Int) →
        Q (.inl (-4 : Int)) (z_st m g))) ∧
    (s0 = (0 : Int) →
      Q (.inl (-1 : Int)) (z_st m g))) :
    z_T 256 3 [.inr (.inr 131), .inl a1, q_dead, q_dead, q_dead, q_dead, q_dead, q_dead] [.inl s0] (z_st m g) Q := y_wp_T (cd := q_c256) (cs := [3, 15, 18, 20, 26, 29, 36, 45, 48, 61, 64, 77]) (ng := []) (sy := []) rfl 300 3 _ _ _ _ h
theorem y_256_15 {m : z_M} {g : z_g} {Q : q_V → q_S → Prop} {a1 s0 : Int} (h :
    z_C 199 [.inl s0] (z_st m g) (fun v S => z_T 256 18 [.inr (.inr 131), .inl a1, .inl s0, q_dead, q_dead, q_dead, q_dead, q_dead] (q_push v []) S Q)) :
    z_T 256 15 [.inr (.inr 131), .inl a1, q_dead, q_dead, q_dead, q_dead, q_dead, q_dead] [.inl s0] (z_st m g) Q := y_wp_T (cd := q_c256) (cs := [3, 15, 18, 20, 26, 29, 36, 45, 48, 61, 64, 77]) (ng := []) (sy := []) rfl 300 15 _ _ _ _ h
theorem y_256_18 {m : z_M} {g : z_g} {Q : q_V → q_S → Prop} {a1 a2 s0 : Int} (h :
    z_C 197 [.inl a2] (z_st m g) (fun v S => z_T 256 20 [.inr (.inr 131), .inl a1, .inl a2, q_dead, q_dead, q_dead, q_dead, q_dead] (q_push v [.inl s0]) S Q)) :
    z_T 256 18 [.inr (.inr 131), .inl a1, .inl a2, q_dead, q_dead, q_dead, q_dead, q_dead] [.inl s0] (z_st m g) Q := y_wp_T (cd := q_c256) (cs := [3, 15, 18, 20, 26, 29, 36, 45, 48, 61, 64, 77]) (ng := []) (sy := []) rfl 300 18 _ _ _ _ h
theorem y_256_20 {m : z_M} {g : z_g} {Q : q_V → q_S → Prop} {a1 a2 s0 s1 : Int} (h :
    z_T 256 26 [.inr (.inr 131), .inl a1, .inl a2, .inl (s1 + s0), .inl (0 : Int), .inl (0 : Int), q_dead, q_dead] [] (z_st m g) Q) :
    z_T 256 20 [.inr (.inr 131), .inl a1, .inl a2, q_dead, q_dead, q_dead, q_dead, q_dead] [.inl s0, .inl s1] (z_st m g) Q := y_wp_T (cd := q_c256) (cs := [3, 15, 18, 20, 26, 29, 36, 45, 48, 61, 64, 77]) (ng := []) (sy := []) rfl 300 20 _ _ _ _ h
theorem y_256_26 {m : z_M} {g : z_g} {Q : q_V → q_S → Prop} {a1 a2 a3 a4 a5 : Int} (h :
    z_C 192 [.inl a2] (z_st m g) (fun v S => z_T 256 29 [.inr (.inr 131), .inl a1, .inl a2, .inl a3, .inl a4, .inl a5, q_dead, q_dead] (q_push v [.inl a5]) S Q)) :
    z_T 256 26 [.inr (.inr 131), .inl a1, .inl a2, .inl a3, .inl a4, .inl a5, q_dead, q_dead] [] (z_st m g) Q := y_wp_T (cd := q_c256) (cs := [3, 15, 18, 20, 26, 29, 36, 45, 48, 61, 64, 77]) (ng := []) (sy := []) rfl 300 26 _ _ _ _ h
theorem y_256_29 {m : z_M} {g : z_g} {Q : q_V → q_S → Prop} {a1 a2 a3 a4 a5 s0 s1 : Int} (h :
    z_ok2 s1 s0 ∧
    (s0 ≤ s1 →
      z_C 213 [.inr (.inr 131), .inl a1] (z_st m g) (fun v S => z_T 256 45 [.inr (.inr 131), .inl a1, .inl a2, .inl a3, .inl a4, .inl a5, q_dead, q_dead] (q_push v []) S Q)) ∧
    (s1 < s0 →
      z_C 198 [.inl a2, .inl a5] (z_st m g) (fun v S => z_T 256 36 [.inr (.inr 131), .inl a1, .inl a2, .inl a3, .inl a4, .inl a5, q_dead, q_dead] (q_push v [.inl a3, .inl (1 : Int), .inl a4]) S Q))) :
    z_T 256 29 [.inr (.inr 131), .inl a1, .inl a2, .inl a3, .inl a4, .inl a5, q_dead, q_dead] [.inl s0, .inl s1] (z_st m g) Q := y_wp_T (cd := q_c256) (cs := [3, 15, 18, 20, 26, 29, 36, 45, 48, 61, 64, 77]) (ng := []) (sy := []) rfl 300 29 _ _ _ _ h
theorem y_256_36 {m : z_M} {g : z_g} {Q : q_V → q_S → Prop} {a1 a2 a3 a4 a5 s0 s1 s2 s3 : Int} (h :
    z_T 256 26 [.inr (.inr 131), .inl a1, .inl a2, .inl a3, .inl (q_bin 4 s3 (q_bin 6 s2 (s1 - s0))), .inl (a5 + (1 : Int)), q_dead, q_dead] [] (z_st m g) Q) :
    z_T 256 36 [.inr (.inr 131), .inl a1, .inl a2, .inl a3, .inl a4, .inl a5, q_dead, q_dead] [.inl s0, .inl s1, .inl s2, .inl s3] (z_st m g) Q := y_wp_T (cd := q_c256) (cs := [3, 15, 18, 20, 26, 29, 36, 45, 48, 61, 64, 77]) (ng := []) (sy := []) rfl 300 36 _ _ _ _ h
theorem y_256_45 {m : z_M} {g : z_g} {Q : q_V → q_S → Prop} {a1 a2 a3 a4 a5 : Int} (h :
    z_C 257 [.inr (.inr 131), .inl a4] (z_st m g) (fun v S => z_T 256 48 [.inr (.inr 131), .inl a1, .inl a2, .inl a3, .inl a4, .inl a5, q_dead, q_dead] (q_push v []) S Q)) :
    z_T 256 45 [.inr (.inr 131), .inl a1, .inl a2, .inl a3, .inl a4, .inl a5, q_dead, q_dead] [] (z_st m g) Q := y_wp_T (cd := q_c256) (cs := [3, 15, 18, 20, 26, 29, 36, 45, 48, 61, 64, 77]) (ng := []) (sy := []) rfl 300 45 _ _ _ _ h
theorem y_256_48 {m : z_M} {g : z_g} {Q : q_V → q_S → Prop} {a1 a2 a3 a4 a5 s0 : Int} (h :
    z_ok s0 ∧
    ((0 : Int) ≤ s0 →
      z_C 207 [.inr (.inr 131), .inl s0, .inl (0 : Int), .inl (0 : Int)] (z_st (q_upd m 131 41 (0 : Int)) g) (fun v S => z_T 256 61 [.inr (.inr 131), .inl a1, .inl a2, .inl a3, .inl a4, .inl s0, q_dead, q_dead] (q_push v []) S Q)) ∧
    (s0 < (0 : Int) →
      Q (.inl (-4 : Int)) (z_st m g))) :
    z_T 256 48 [.inr (.inr 131), .inl a1, .inl a2, .inl a3, .inl a4, .inl a5, q_dead, q_dead] [.inl s0] (z_st m g) Q := y_wp_T (cd := q_c256) (cs := [3, 15, 18, 20, 26, 29, 36, 45, 48, 61, 64, 77]) (ng := []) (sy := []) rfl 300 48 _ _ _ _ h
theorem y_256_61 {m : z_M} {g : z_g} {Q : q_V → q_S → Prop} {a1 a2 a3 a4 a5 s0 : Int} (h :
    z_T 256 64 [.inr (.inr 131), .inl a1, .inl a2, .inl a3, .inl a4, .inl a5, .inl s0, .inl (0 : Int)] [] (z_st m g) Q) :
    z_T 256 61 [.inr (.inr 131), .inl a1, .inl a2, .inl a3, .inl a4, .inl a5, q_dead, q_dead] [.inl s0] (z_st m g) Q := y_wp_T (cd := q_c256) (cs := [3, 15, 18, 20, 26, 29, 36, 45, 48, 61, 64, 77]) (ng := []) (sy := []) rfl 300 61 _ _ _ _ h
theorem y_256_64 {m : z_M} {g : z_g} {Q : q_V → q_S → Prop} {a1 a2 a3 a4 a5 a6 a7 : Int} (h :
    z_ok2 a7 (13 : Int) ∧
    ((13 : Int) ≤ a7 →
      Q (.inl a6) (z_st m g)) ∧
    (a7 < (13 : Int) →
      z_C 204 [.inl a4, .inl a7] (z_st m g) (fun v S => z_T 256 77 [.inr (.inr 131), .inl a1, .inl a2, .inl a3, .inl a4, .inl a5, .inl a6, .inl a7] (q_push v [.inl (((13 : Int) * a6) + a7), .inr (.inr 137)]) S Q))) :
    z_T 256 64 [.inr (.inr 131), .inl a1, .inl a2, .inl a3, .inl a4, .inl a5, .inl a6, .inl a7] [] (z_st m g) Q := y_wp_T (cd := q_c256) (cs := [3, 15, 18, 20, 26, 29, 36, 45, 48, 61, 64, 77]) (ng := []) (sy := []) rfl 300 64 _ _ _ _ h
theorem y_256_77 {m : z_M} {g : z_g} {Q : q_V → q_S → Prop} {a1 a2 a3 a4 a5 a6 a7 s0 s1 : Int} (h :
    z_ok s0 ∧
    (s0 = (0 : Int) →
      z_in s1 78 ∧
      z_T 256 64 [.inr (.inr 131), .inl a1, .inl a2, .inl a3, .inl a4, .inl a5, .inl a6, .inl (a7 + (1 : Int))] [] (z_st (q_upd m 137 ((s1).toNat) (0 : Int)) g) Q) ∧
    (¬ s0 = (0 : Int) →
      z_in (a3 - a7) 13 ∧
      z_in s1 78 ∧
      z_T 256 64 [.inr (.inr 131), .inl a1, .inl a2, .inl a3, .inl a4, .inl a5, .inl a6, .inl (a7 + (1 : Int))] [] (z_st (q_upd m 137 ((s1).toNat) (m 138 ((a3 - a7).toNat))) g) Q)) :
    z_T 256 77 [.inr (.inr 131), .inl a1, .inl a2, .inl a3, .inl a4, .inl a5, .inl a6, .inl a7] [.inl s0, .inl s1, .inr (.inr 137)] (z_st m g) Q := y_wp_T (cd := q_c256) (cs := [3, 15, 18, 20, 26, 29, 36, 45, 48, 61, 64, 77]) (ng := []) (sy := []) rfl 300 77 _ _ _ _ h
theorem y_257P : q_P 257 = (q_c257, 3) := rfl
theorem y_257 {m : z_M} {g : z_g} {Q : q_V → q_S → Prop} {a1 : Int} (h :
    z_T 257 2 [.inr (.inr 131), .inl a1, .inl (0 : Int)] [] (z_st m g) Q) :
    z_C 257 [.inr (.inr 131), .inl a1] (z_st m g) Q := y_C_wp (cs := [2, 25]) (ng := []) (sy := []) (n := 300) y_257P h
theorem y_257_2 {m : z_M} {g : z_g} {Q : q_V → q_S → Prop} {a1 a2 : Int} (h :
    z_ok2 a2 (m 131 3) ∧
    ((m 131 3) ≤ a2 →
      z_ok2 (m 131 3) (6 : Int) ∧
      (¬ (m 131 3) = (6 : Int) →
        z_C 193 [.inr (.inr 131), .inl a1] (z_st m g) (fun v S => z_T 257 25 [.inr (.inr 131), .inl a1, .inl a2] (q_push v []) S Q)) ∧
      ((m 131 3) = (6 : Int) →
        z_T 257 25 [.inr (.inr 131), .inl a1, .inl a2] [.inl (-4 : Int)] (z_st m g) Q)) ∧
    (a2 < (m 131 3) →
      z_in a2 6 ∧
      z_ok2 (m 133 ((a2).toNat)) a1 ∧
      (¬ (m 133 ((a2).toNat)) = a1 →
        z_T 257 2 [.inr (.inr 131), .inl a1, .inl (a2 + (1 : Int))] [] (z_st m g) Q) ∧
      ((m 133 ((a2).toNat)) = a1 →
        Q (.inl a2) (z_st m g)))) :
    z_T 257 2 [.inr (.inr 131), .inl a1, .inl a2] [] (z_st m g) Q := y_wp_T (cd := q_c257) (cs := [2, 25]) (ng := []) (sy := []) rfl 300 2 _ _ _ _ h
theorem y_257_25 {m : z_M} {g : z_g} {Q : q_V → q_S → Prop} {a1 a2 s0 : Int} (h :
    Q (.inl s0) (z_st m g)) :
    z_T 257 25 [.inr (.inr 131), .inl a1, .inl a2] [.inl s0] (z_st m g) Q := y_wp_T (cd := q_c257) (cs := [2, 25]) (ng := []) (sy := []) rfl 300 25 _ _ _ _ h
theorem y_258P : q_P 258 = (q_c258, 8) := rfl
theorem y_258 {m : z_M} {g : z_g} {Q : q_V → q_S → Prop} {a1 a2 : Int} (h :
    z_C 209 [.inr (.inr 131), .inl a1] (z_st m g) (fun v S => z_T 258 3 [.inr (.inr 131), .inl a1, .inl a2, q_dead, q_dead, q_dead, q_dead, q_dead] (q_push v []) S Q)) :
    z_C 258 [.inr (.inr 131), .inl a1, .inl a2] (z_st m g) Q := y_C_wp (cs := [3, 10, 13, 19, 32, 57, 77, 89, 102, 105]) (ng := []) (sy := []) (n := 300) y_258P h
theorem y_258_3 {m : z_M} {g : z_g} {Q : q_V → q_S → Prop} {a1 a2 s0 : Int} (h :
    z_ok s0 ∧
    (¬ s0 = (0 : Int) →
      z_C 216 [.inr (.inr 131)] (z_st m g) (fun v S => z_T 258 10 [.inr (.inr 131), .inl a1, .inl a2, q_dead, q_dead, q_dead, q_dead, q_dead] (q_push v [.inl (0 : Int), .inl a2]) S Q)) ∧
    (s0 = (0 : Int) →
      Q (.inl (-1 : Int)) (z_st m g))) :
    z_T 258 3 [.inr (.inr 131), .inl a1, .inl a2, q_dead, q_dead, q_dead, q_dead, q_dead] [.inl s0] (z_st m g) Q := y_wp_T (cd := q_c258) (cs := [3, 10, 13, 19, 32, 57, 77, 89, 102, 105]) (ng := []) (sy := []) rfl 300 3 _ _ _ _ h
theorem y_258_10 {m : z_M} {g : z_g} {Q : q_V → q_S → Prop} {a1 a2 s0 s1 s2 : Int} (h :
    z_C 188 [.inl s2, .inl s1, .inl (s0 - (1 : Int))] (z_st m g) (fun v S => z_T 258 13 [.inr (.inr 131), .inl a1, .inl a2, q_dead, q_dead, q_dead, q_dead, q_dead] (q_push v []) S Q)) :
    z_T 258 10 [.inr (.inr 131), .inl a1, .inl a2, q_dead, q_dead, q_dead, q_dead, q_dead] [.inl s0, .inl s1, .inl s2] (z_st m g) Q := y_wp_T (cd := q_c258) (cs := [3, 10, 13, 19, 32, 57, 77, 89, 102, 105]) (ng := []) (sy := []) rfl 300 10 _ _ _ _ h
theorem y_258_13 {m : z_M} {g : z_g} {Q : q_V → q_S → Prop} {a1 a2 s0 : Int} (h :
    z_ok s0 ∧
    (¬ s0 = (0 : Int) →
      z_C 213 [.inr (.inr 131), .inl a1] (z_st m g) (fun v S => z_T 258 19 [.inr (.inr 131), .inl a1, .inl a2, q_dead, q_dead, q_dead, q_dead, q_dead] (q_push v []) S Q)) ∧
    (s0 = (0 : Int) →
      Q (.inl (-2 : Int)) (z_st m g))) :
    z_T 258 13 [.inr (.inr 131), .inl a1, .inl a2, q_dead, q_dead, q_dead, q_dead, q_dead] [.inl s0] (z_st m g) Q := y_wp_T (cd := q_c258) (cs := [3, 10, 13, 19, 32, 57, 77, 89, 102, 105]) (ng := []) (sy := []) rfl 300 13 _ _ _ _ h
theorem y_258_19 {m : z_M} {g : z_g} {Q : q_V → q_S → Prop} {a1 a2 : Int} (h :
    z_in (12 : Int) 13 ∧
    z_ok (m 138 12) ∧
    ((m 138 12) = (0 : Int) →
      z_T 258 32 [.inr (.inr 131), .inl a1, .inl a2, .inl (0 : Int), .inl (0 : Int), .inl (0 : Int), q_dead, q_dead] [] (z_st m g) Q) ∧
    (¬ (m 138 12) = (0 : Int) →
      z_T 258 32 [.inr (.inr 131), .inl a1, .inl a2, .inl (1 : Int), .inl (0 : Int), .inl (0 : Int), q_dead, q_dead] [] (z_st m g) Q)) :
    z_T 258 19 [.inr (.inr 131), .inl a1, .inl a2, q_dead, q_dead, q_dead, q_dead, q_dead] [] (z_st m g) Q := y_wp_T (cd := q_c258) (cs := [3, 10, 13, 19, 32, 57, 77, 89, 102, 105]) (ng := []) (sy := []) rfl 300 19 _ _ _ _ h
theorem y_258_32 {m : z_M} {g : z_g} {Q : q_V → q_S → Prop} {a1 a2 a3 a4 a5 : Int} (h :
    z_ok2 a5 (13 : Int) ∧
    ((13 : Int) ≤ a5 →
      z_ok a3 ∧
      (¬ a3 = (0 : Int) →
        Q (.inl (-3 : Int)) (z_st m g)) ∧
      (a3 = (0 : Int) →
        z_C 191 [.inl a4] (z_st m g) (fun v S => z_T 258 77 [.inr (.inr 131), .inl a1, .inl a2, .inl a3, .inl a4, .inl a5, q_dead, q_dead] (q_push v []) S Q))) ∧
    (a5 < (13 : Int) →
      z_ok a5 ∧
      (a5 ≤ (0 : Int) →
        z_in a5 13 ∧
        z_C 215 [.inr (.inr 131), .inl ((0 : Int) - (a2 * (m 138 ((a5).toNat))))] (z_st m g) (fun v S => z_T 258 57 [.inr (.inr 131), .inl a1, .inl a2, .inl a3, .inl a4, .inl a5, q_dead, q_dead] (q_push v [.inl a5, .inr (.inr 139)]) S Q)) ∧
      ((0 : Int) < a5 →
        z_in (a5 - (1 : Int)) 13 ∧
        z_in a5 13 ∧
        z_C 215 [.inr (.inr 131), .inl ((m 138 ((a5 - (1 : Int)).toNat)) - (a2 * (m 138 ((a5).toNat))))] (z_st m g) (fun v S => z_T 258 57 [.inr (.inr 131), .inl a1, .inl a2, .inl a3, .inl a4, .inl a5, q_dead, q_dead] (q_push v [.inl a5, .inr (.inr 139)]) S Q)))) :
    z_T 258 32 [.inr (.inr 131), .inl a1, .inl a2, .inl a3, .inl a4, .inl a5, q_dead, q_dead] [] (z_st m g) Q := y_wp_T (cd := q_c258) (cs := [3, 10, 13, 19, 32, 57, 77, 89, 102, 105]) (ng := []) (sy := []) rfl 300 32 _ _ _ _ h
theorem y_258_57 {m : z_M} {g : z_g} {Q : q_V → q_S → Prop} {a1 a2 a3 a4 a5 s0 s1 : Int} (h :
    z_in s1 13 ∧
    z_in a5 13 ∧
    z_ok ((q_upd m 139 ((s1).toNat) s0) 139 ((a5).toNat)) ∧
    (((q_upd m 139 ((s1).toNat) s0) 139 ((a5).toNat)) = (0 : Int) →
      z_T 258 32 [.inr (.inr 131), .inl a1, .inl a2, .inl a3, .inl (q_bin 4 a4 (0 : Int)), .inl (a5 + (1 : Int)), q_dead, q_dead] [] (z_st (q_upd m 139 ((s1).toNat) s0) g) Q) ∧
    (¬ ((q_upd m 139 ((s1).toNat) s0) 139 ((a5).toNat)) = (0 : Int) →
      z_T 258 32 [.inr (.inr 131), .inl a1, .inl a2, .inl a3, .inl (q_bin 4 a4 (q_bin 6 (1 : Int) a5)), .inl (a5 + (1 : Int)), q_dead, q_dead] [] (z_st (q_upd m 139 ((s1).toNat) s0) g) Q)) :
    z_T 258 57 [.inr (.inr 131), .inl a1, .inl a2, .inl a3, .inl a4, .inl a5, q_dead, q_dead] [.inl s0, .inl s1, .inr (.inr 139)] (z_st m g) Q := y_wp_T (cd := q_c258) (cs := [3, 10, 13, 19, 32, 57, 77, 89, 102, 105]) (ng := []) (sy := []) rfl 300 57 _ _ _ _ h
theorem y_258_77 {m : z_M} {g : z_g} {Q : q_V → q_S → Prop} {a1 a2 a3 a4 a5 s0 : Int} (h :
    z_ok s0 ∧
    (¬ s0 = (0 : Int) →
      z_ok2 (m 131 8) (6 : Int) ∧
      (¬ (m 131 8) = (6 : Int) →
        z_C 257 [.inr (.inr 131), .inl a4] (z_st m g) (fun v S => z_T 258 89 [.inr (.inr 131), .inl a1, .inl a2, .inl a3, .inl a4, .inl a5, q_dead, q_dead] (q_push v []) S Q)) ∧
      ((m 131 8) = (6 : Int) →
        Q (.inl (-4 : Int)) (z_st m g))) ∧
    (s0 = (0 : Int) →
      Q (.inl (-3 : Int)) (z_st m g))) :
    z_T 258 77 [.inr (.inr 131), .inl a1, .inl a2, .inl a3, .inl a4, .inl a5, q_dead, q_dead] [.inl s0] (z_st m g) Q := y_wp_T (cd := q_c258) (cs := [3, 10, 13, 19, 32, 57, 77, 89, 102, 105]) (ng := []) (sy := []) rfl 300 77 _ _ _ _ h
theorem y_258_89 {m : z_M} {g : z_g} {Q : q_V → q_S → Prop} {a1 a2 a3 a4 a5 s0 : Int} (h :
    z_ok s0 ∧
    ((0 : Int) ≤ s0 →
      z_C 207 [.inr (.inr 131), .inl s0, .inl (0 : Int), .inl (0 : Int)] (z_st (q_upd m 131 41 (0 : Int)) g) (fun v S => z_T 258 102 [.inr (.inr 131), .inl a1, .inl a2, .inl a3, .inl a4, .inl s0, q_dead, q_dead] (q_push v []) S Q)) ∧
    (s0 < (0 : Int) →
      Q (.inl (-4 : Int)) (z_st m g))) :
    z_T 258 89 [.inr (.inr 131), .inl a1, .inl a2, .inl a3, .inl a4, .inl a5, q_dead, q_dead] [.inl s0] (z_st m g) Q := y_wp_T (cd := q_c258) (cs := [3, 10, 13, 19, 32, 57, 77, 89, 102, 105]) (ng := []) (sy := []) rfl 300 89 _ _ _ _ h
theorem y_258_102 {m : z_M} {g : z_g} {Q : q_V → q_S → Prop} {a1 a2 a3 a4 a5 s0 : Int} (h :
    z_T 258 105 [.inr (.inr 131), .inl a1, .inl a2, .inl a3, .inl a4, .inl a5, .inl s0, .inl (0 : Int)] [] (z_st m g) Q) :
    z_T 258 102 [.inr (.inr 131), .inl a1, .inl a2, .inl a3, .inl a4, .inl a5, q_dead, q_dead] [.inl s0] (z_st m g) Q := y_wp_T (cd := q_c258) (cs := [3, 10, 13, 19, 32, 57, 77, 89, 102, 105]) (ng := []) (sy := []) rfl 300 102 _ _ _ _ h
theorem y_258_105 {m : z_M} {g : z_g} {Q : q_V → q_S → Prop} {a1 a2 a3 a4 a5 a6 a7 : Int} (h :
    z_ok2 a7 (13 : Int) ∧
    ((13 : Int) ≤ a7 →
      Q (.inl a6) (z_st m g)) ∧
    (a7 < (13 : Int) →
      z_in a7 13 ∧
      z_in (((13 : Int) * a6) + a7) 78 ∧
      z_T 258 105 [.inr (.inr 131), .inl a1, .inl a2, .inl a3, .inl a4, .inl a5, .inl a6, .inl (a7 + (1 : Int))] [] (z_st (q_upd m 137 ((((13 : Int) * a6) + a7).toNat) (m 139 ((a7).toNat))) g) Q)) :
    z_T 258 105 [.inr (.inr 131), .inl a1, .inl a2, .inl a3, .inl a4, .inl a5, .inl a6, .inl a7] [] (z_st m g) Q := y_wp_T (cd := q_c258) (cs := [3, 10, 13, 19, 32, 57, 77, 89, 102, 105]) (ng := []) (sy := []) rfl 300 105 _ _ _ _ h
theorem y_259P : q_P 259 = (q_c259, 11) := rfl
theorem y_259 {m : z_M} {g : z_g} {Q : q_V → q_S → Prop} {a1 a2 : Int} (h :
    z_C 195 [.inr (.inr 131), .inl a1] (z_st m g) (fun v S => z_T 259 3 [.inr (.inr 131), .inl a1, .inl a2, q_dead, q_dead, q_dead, q_dead, q_dead, q_dead, q_dead, q_dead] (q_push v []) S Q)) :
    z_C 259 [.inr (.inr 131), .inl a1, .inl a2] (z_st m g) Q := y_C_wp (cs := [3, 8, 18, 22, 32, 44, 49, 83, 90, 97, 101]) (ng := []) (sy := []) (n := 300) y_259P h
theorem y_259_3 {m : z_M} {g : z_g} {Q : q_V → q_S → Prop} {a1 a2 s0 : Int} (h :
    z_ok s0 ∧
    (s0 = (0 : Int) →
      Q (.inl (-1 : Int)) (z_st m g)) ∧
    (¬ s0 = (0 : Int) →
      z_C 188 [.inl a2, .inl (0 : Int), .inl (1 : Int)] (z_st m g) (fun v S => z_T 259 8 [.inr (.inr 131), .inl a1, .inl a2, q_dead, q_dead, q_dead, q_dead, q_dead, q_dead, q_dead, q_dead] (q_push v []) S Q))) :
    z_T 259 3 [.inr (.inr 131), .inl a1, .inl a2, q_dead, q_dead, q_dead, q_dead, q_dead, q_dead, q_dead, q_dead] [.inl s0] (z_st m g) Q := y_wp_T (cd := q_c259) (cs := [3, 8, 18, 22, 32, 44, 49, 83, 90, 97, 101]) (ng := []) (sy := []) rfl 300 3 _ _ _ _ h
theorem y_259_8 {m : z_M} {g : z_g} {Q : q_V → q_S → Prop} {a1 a2 s0 : Int} (h :
    z_ok s0 ∧
    (¬ s0 = (0 : Int) →
      z_in a1 6 ∧
      z_C 192 [.inl (m 133 ((a1).toNat))] (z_st m g) (fun v S => z_T 259 18 [.inr (.inr 131), .inl a1, .inl a2, .inl (m 133 ((a1).toNat)), q_dead, q_dead, q_dead, q_dead, q_dead, q_dead, q_dead] (q_push v []) S Q)) ∧
    (s0 = (0 : Int) →
      Q (.inl (-1 : Int)) (z_st m g))) :
    z_T 259 8 [.inr (.inr 131), .inl a1, .inl a2, q_dead, q_dead, q_dead, q_dead, q_dead, q_dead, q_dead, q_dead] [.inl s0] (z_st m g) Q := y_wp_T (cd := q_c259) (cs := [3, 8, 18, 22, 32, 44, 49, 83, 90, 97, 101]) (ng := []) (sy := []) rfl 300 8 _ _ _ _ h
theorem y_259_18 {m : z_M} {g : z_g} {Q : q_V → q_S → Prop} {a1 a2 a3 s0 : Int} (h :
    z_ok2 s0 (3 : Int) ∧
    (¬ s0 = (3 : Int) →
      Q (.inl (-3 : Int)) (z_st m g)) ∧
    (s0 = (3 : Int) →
      z_C 216 [.inr (.inr 131)] (z_st m g) (fun v S => z_T 259 22 [.inr (.inr 131), .inl a1, .inl a2, .inl a3, q_dead, q_dead, q_dead, q_dead, q_dead, q_dead, q_dead] (q_push v []) S Q))) :
    z_T 259 18 [.inr (.inr 131), .inl a1, .inl a2, .inl a3, q_dead, q_dead, q_dead, q_dead, q_dead, q_dead, q_dead] [.inl s0] (z_st m g) Q := y_wp_T (cd := q_c259) (cs := [3, 8, 18, 22, 32, 44, 49, 83, 90, 97, 101]) (ng := []) (sy := []) rfl 300 18 _ _ _ _ h
theorem y_259_22 {m : z_M} {g : z_g} {Q : q_V → q_S → Prop} {a1 a2 a3 s0 : Int} (h :
    z_ok2 s0 (13 : Int) ∧
    (s0 ≤ (13 : Int) →
      z_T 259 32 [.inr (.inr 131), .inl a1, .inl a2, .inl a3, .inl (0 : Int), .inl (-5 : Int), .inl (0 : Int), q_dead, q_dead, q_dead, q_dead] [] (z_st m g) Q) ∧
    ((13 : Int) < s0 →
      Q (.inl (-3 : Int)) (z_st m g))) :
    z_T 259 22 [.inr (.inr 131), .inl a1, .inl a2, .inl a3, q_dead, q_dead, q_dead, q_dead, q_dead, q_dead, q_dead] [.inl s0] (z_st m g) Q := y_wp_T (cd := q_c259) (cs := [3, 8, 18, 22, 32, 44, 49, 83, 90, 97, 101]) (ng := []) (sy := []) rfl 300 22 _ _ _ _ h
theorem y_259_32 {m : z_M} {g : z_g} {Q : q_V → q_S → Prop} {a1 a2 a3 a4 a5 a6 : Int} (h :
    z_ok2 a6 (13 : Int) ∧
    ((13 : Int) ≤ a6 →
      z_C 216 [.inr (.inr 131)] (z_st m g) (fun v S => z_T 259 44 [.inr (.inr 131), .inl a1, .inl a2, .inl a3, .inl a4, .inl a5, .inl a6, q_dead, q_dead, q_dead, q_dead] (q_push v []) S Q)) ∧
    (a6 < (13 : Int) →
      z_in a6 13 ∧
      z_T 259 32 [.inr (.inr 131), .inl a1, .inl a2, .inl a3, .inl a4, .inl a5, .inl (a6 + (1 : Int)), q_dead, q_dead, q_dead, q_dead] [] (z_st (q_upd m 138 ((a6).toNat) (0 : Int)) g) Q)) :
    z_T 259 32 [.inr (.inr 131), .inl a1, .inl a2, .inl a3, .inl a4, .inl a5, .inl a6, q_dead, q_dead, q_dead, q_dead] [] (z_st m g) Q := y_wp_T (cd := q_c259) (cs := [3, 8, 18, 22, 32, 44, 49, 83, 90, 97, 101]) (ng := []) (sy := []) rfl 300 32 _ _ _ _ h
theorem y_259_44 {m : z_M} {g : z_g} {Q : q_V → q_S → Prop} {a1 a2 a3 a4 a5 a6 s0 : Int} (h :
    z_T 259 49 [.inr (.inr 131), .inl a1, .inl a2, .inl a3, .inl a4, .inl a5, .inl (s0 - (1 : Int)), .inl (0 : Int), q_dead, q_dead, q_dead] [] (z_st m g) Q) :
    z_T 259 44 [.inr (.inr 131), .inl a1, .inl a2, .inl a3, .inl a4, .inl a5, .inl a6, q_dead, q_dead, q_dead, q_dead] [.inl s0] (z_st m g) Q := y_wp_T (cd := q_c259) (cs := [3, 8, 18, 22, 32, 44, 49, 83, 90, 97, 101]) (ng := []) (sy := []) rfl 300 44 _ _ _ _ h
theorem y_259_49 {m : z_M} {g : z_g} {Q : q_V → q_S → Prop} {a1 a2 a3 a4 a5 a6 a7 : Int} {da8 da9 da10 : q_V} (h :
    z_ok2 a7 ((a6 * a6) * a6) ∧
    (((a6 * a6) * a6) ≤ a7 →
      z_ok a2 ∧
      (¬ a2 = (0 : Int) →
        Q (.inl a5) (z_st m g)) ∧
      (a2 = (0 : Int) →
        Q (.inl a4) (z_st m g))) ∧
    (a7 < ((a6 * a6) * a6) →
      z_dv a7 (a6 * a6) ∧
      z_dv a7 a6 ∧
      z_dv (a7 / a6) a6 ∧
      z_dv a7 a6 ∧
      z_C 198 [.inl a3, .inl (0 : Int)] (z_st m g) (fun v S => z_T 259 83 [.inr (.inr 131), .inl a1, .inl a2, .inl a3, .inl a4, .inl a5, .inl a6, .inl a7, .inl ((1 : Int) + (a7 / (a6 * a6))), .inl ((1 : Int) + ((a7 / a6) % a6)), .inl ((1 : Int) + (a7 % a6))] (q_push v [.inr (.inr 138)]) S Q))) :
    z_T 259 49 [.inr (.inr 131), .inl a1, .inl a2, .inl a3, .inl a4, .inl a5, .inl a6, .inl a7, da8, da9, da10] [] (z_st m g) Q := y_wp_T (cd := q_c259) (cs := [3, 8, 18, 22, 32, 44, 49, 83, 90, 97, 101]) (ng := []) (sy := []) rfl 300 49 _ _ _ _ h
theorem y_259_83 {m : z_M} {g : z_g} {Q : q_V → q_S → Prop} {a1 a2 a3 a4 a5 a6 a7 a8 a9 a10 s0 : Int} (h :
    z_in s0 13 ∧
    z_C 198 [.inl a3, .inl (1 : Int)] (z_st (q_upd m 138 ((s0).toNat) a8) g) (fun v S => z_T 259 90 [.inr (.inr 131), .inl a1, .inl a2, .inl a3, .inl a4, .inl a5, .inl a6, .inl a7, .inl a8, .inl a9, .inl a10] (q_push v [.inr (.inr 138)]) S Q)) :
    z_T 259 83 [.inr (.inr 131), .inl a1, .inl a2, .inl a3, .inl a4, .inl a5, .inl a6, .inl a7, .inl a8, .inl a9, .inl a10] [.inl s0, .inr (.inr 138)] (z_st m g) Q := y_wp_T (cd := q_c259) (cs := [3, 8, 18, 22, 32, 44, 49, 83, 90, 97, 101]) (ng := []) (sy := []) rfl 300 83 _ _ _ _ h
theorem y_259_90 {m : z_M} {g : z_g} {Q : q_V → q_S → Prop} {a1 a2 a3 a4 a5 a6 a7 a8 a9 a10 s0 : Int} (h :
    z_in s0 13 ∧
    z_C 198 [.inl a3, .inl (2 : Int)] (z_st (q_upd m 138 ((s0).toNat) a9) g) (fun v S => z_T 259 97 [.inr (.inr 131), .inl a1, .inl a2, .inl a3, .inl a4, .inl a5, .inl a6, .inl a7, .inl a8, .inl a9, .inl a10] (q_push v [.inr (.inr 138)]) S Q)) :
    z_T 259 90 [.inr (.inr 131), .inl a1, .inl a2, .inl a3, .inl a4, .inl a5, .inl a6, .inl a7, .inl a8, .inl a9, .inl a10] [.inl s0, .inr (.inr 138)] (z_st m g) Q := y_wp_T (cd := q_c259) (cs := [3, 8, 18, 22, 32, 44, 49, 83, 90, 97, 101]) (ng := []) (sy := []) rfl 300 90 _ _ _ _ h
theorem y_259_97 {m : z_M} {g : z_g} {Q : q_V → q_S → Prop} {a1 a2 a3 a4 a5 a6 a7 a8 a9 a10 s0 : Int} (h :
    z_in s0 13 ∧
    z_C 260 [.inr (.inr 131)] (z_st (q_upd m 138 ((s0).toNat) a10) g) (fun v S => z_T 259 101 [.inr (.inr 131), .inl a1, .inl a2, .inl a3, .inl a4, .inl a5, .inl a6, .inl a7, .inl a8, .inl a9, .inl a10] (q_push v []) S Q)) :
    z_T 259 97 [.inr (.inr 131), .inl a1, .inl a2, .inl a3, .inl a4, .inl a5, .inl a6, .inl a7, .inl a8, .inl a9, .inl a10] [.inl s0, .inr (.inr 138)] (z_st m g) Q := y_wp_T (cd := q_c259) (cs := [3, 8, 18, 22, 32, 44, 49, 83, 90, 97, 101]) (ng := []) (sy := []) rfl 300 97 _ _ _ _ h
theorem y_259_101 {m : z_M} {g : z_g} {Q : q_V → q_S → Prop} {a1 a2 a3 a4 a5 a6 a7 a8 a9 a10 s0 : Int} (h :
    z_ok s0 ∧
    (¬ s0 = (0 : Int) →
      z_ok a4 ∧
      (¬ a4 = (0 : Int) →
        z_T 259 49 [.inr (.inr 131), .inl a1, .inl a2, .inl a3, .inl (a4 + (1 : Int)), .inl a5, .inl a6, .inl (a7 + (1 : Int)), .inl a8, .inl a9, .inl a10] [] (z_st m g) Q) ∧
      (a4 = (0 : Int) →
        z_T 259 49 [.inr (.inr 131), .inl a1, .inl a2, .inl a3, .inl (a4 + (1 : Int)), .inl ((((10000 : Int) * a8) + ((100 : Int) * a9)) + a10), .inl a6, .inl (a7 + (1 : Int)), .inl a8, .inl a9, .inl a10] [] (z_st m g) Q)) ∧
    (s0 = (0 : Int) →
      z_T 259 49 [.inr (.inr 131), .inl a1, .inl a2, .inl a3, .inl a4, .inl a5, .inl a6, .inl (a7 + (1 : Int)), .inl a8, .inl a9, .inl a10] [] (z_st m g) Q)) :
    z_T 259 101 [.inr (.inr 131), .inl a1, .inl a2, .inl a3, .inl a4, .inl a5, .inl a6, .inl a7, .inl a8, .inl a9, .inl a10] [.inl s0] (z_st m g) Q := y_wp_T (cd := q_c259) (cs := [3, 8, 18, 22, 32, 44, 49, 83, 90, 97, 101]) (ng := []) (sy := []) rfl 300 101 _ _ _ _ h
theorem y_260P : q_P 260 = (q_c260, 3) := rfl
theorem y_260 {m : z_M} {g : z_g} {Q : q_V → q_S → Prop} (h :
    z_T 260 4 [.inr (.inr 131), .inl (0 : Int), .inl (1 : Int)] [] (z_st m g) Q) :
    z_C 260 [.inr (.inr 131)] (z_st m g) Q := y_C_wp (cs := [4, 7, 13, 17]) (ng := []) (sy := []) (n := 300) y_260P h
theorem y_260_4 {m : z_M} {g : z_g} {Q : q_V → q_S → Prop} {a1 a2 : Int} (h :
    z_C 216 [.inr (.inr 131)] (z_st m g) (fun v S => z_T 260 7 [.inr (.inr 131), .inl a1, .inl a2] (q_push v [.inl a2]) S Q)) :
    z_T 260 4 [.inr (.inr 131), .inl a1, .inl a2] [] (z_st m g) Q := y_wp_T (cd := q_c260) (cs := [4, 7, 13, 17]) (ng := []) (sy := []) rfl 300 4 _ _ _ _ h
theorem y_260_7 {m : z_M} {g : z_g} {Q : q_V → q_S → Prop} {a1 a2 s0 s1 : Int} (h :
    z_ok2 s1 s0 ∧
    (s0 ≤ s1 →
      (a1 = 0 ∨ a1 = 1) ∧ Q (.inl a1) (z_st m g)) ∧
    (s1 < s0 →
      z_ok a1 ∧
      (¬ a1 = (0 : Int) →
        (a1 = 0 ∨ a1 = 1) ∧ Q (.inl a1) (z_st m g)) ∧
      (a1 = (0 : Int) →
        z_C 230 [.inr (.inr 131), .inl a2] (z_st m g) (fun v S => z_T 260 13 [.inr (.inr 131), .inl a1, .inl a2] (q_push v []) S Q)))) :
    z_T 260 7 [.inr (.inr 131), .inl a1, .inl a2] [.inl s0, .inl s1] (z_st m g) Q := y_wp_T (cd := q_c260) (cs := [4, 7, 13, 17]) (ng := [25]) (sy := []) rfl 300 7 _ _ _ _ h
theorem y_260_13 {m : z_M} {g : z_g} {Q : q_V → q_S → Prop} {a1 a2 s0 : Int} (h :
    z_ok s0 ∧
    (¬ s0 = (0 : Int) →
      z_T 260 4 [.inr (.inr 131), .inl (0 : Int), .inl (a2 + (1 : Int))] [] (z_st m g) Q) ∧
    (s0 = (0 : Int) →
      z_C 231 [.inr (.inr 131), .inl a2] (z_st m g) (fun v S => z_T 260 17 [.inr (.inr 131), .inl a1, .inl a2] (q_push v []) S Q))) :
    z_T 260 13 [.inr (.inr 131), .inl a1, .inl a2] [.inl s0] (z_st m g) Q := y_wp_T (cd := q_c260) (cs := [4, 7, 13, 17]) (ng := []) (sy := []) rfl 300 13 _ _ _ _ h
theorem y_260_17 {m : z_M} {g : z_g} {Q : q_V → q_S → Prop} {a1 a2 s0 : Int} (h :
    z_ok s0 ∧
    (¬ s0 = (0 : Int) →
      z_T 260 4 [.inr (.inr 131), .inl (0 : Int), .inl (a2 + (1 : Int))] [] (z_st m g) Q) ∧
    (s0 = (0 : Int) →
      z_T 260 4 [.inr (.inr 131), .inl (1 : Int), .inl (a2 + (1 : Int))] [] (z_st m g) Q)) :
    z_T 260 17 [.inr (.inr 131), .inl a1, .inl a2] [.inl s0] (z_st m g) Q := y_wp_T (cd := q_c260) (cs := [4, 7, 13, 17]) (ng := []) (sy := []) rfl 300 17 _ _ _ _ h
theorem y_261P : q_P 261 = (q_c261, 7) := rfl
theorem y_261 {m : z_M} {g : z_g} {Q : q_V → q_S → Prop} {a1 : Int} (h :
    z_C 209 [.inr (.inr 131), .inl a1] (z_st m g) (fun v S => z_T 261 3 [.inr (.inr 131), .inl a1, q_dead, q_dead, q_dead, q_dead, q_dead] (q_push v []) S Q)) :
    z_C 261 [.inr (.inr 131), .inl a1] (z_st m g) Q := y_C_wp (cs := [3, 9, 12, 18, 20, 25, 27, 30, 36, 41, 42, 44, 47, 53, 54, 58, 61, 71, 75, 78, 85, 86, 88, 91, 106]) (ng := []) (sy := []) (n := 300) y_261P h
theorem y_261_3 {m : z_M} {g : z_g} {Q : q_V → q_S → Prop} {a1 s0 : Int} (h :
    z_ok s0 ∧
    (¬ s0 = (0 : Int) →
      z_C 210 [.inr (.inr 131), .inl a1] (z_st m g) (fun v S => z_T 261 9 [.inr (.inr 131), .inl a1, q_dead, q_dead, q_dead, q_dead, q_dead] (q_push v []) S Q)) ∧
    (s0 = (0 : Int) →
      Q (.inl (-1 : Int)) (z_st m g))) :
    z_T 261 3 [.inr (.inr 131), .inl a1, q_dead, q_dead, q_dead, q_dead, q_dead] [.inl s0] (z_st m g) Q := y_wp_T (cd := q_c261) (cs := [3, 9, 12, 18, 20, 25, 27, 30, 36, 41, 42, 44, 47, 53, 54, 58, 61, 71, 75, 78, 85, 86, 88, 91, 106]) (ng := []) (sy := []) rfl 300 3 _ _ _ _ h
theorem y_261_9 {m : z_M} {g : z_g} {Q : q_V → q_S → Prop} {a1 s0 : Int} (h :
    z_C 192 [.inl s0] (z_st m g) (fun v S => z_T 261 12 [.inr (.inr 131), .inl a1, .inl s0, q_dead, q_dead, q_dead, q_dead] (q_push v []) S Q)) :
    z_T 261 9 [.inr (.inr 131), .inl a1, q_dead, q_dead, q_dead, q_dead, q_dead] [.inl s0] (z_st m g) Q := y_wp_T (cd := q_c261) (cs := [3, 9, 12, 18, 20, 25, 27, 30, 36, 41, 42, 44, 47, 53, 54, 58, 61, 71, 75, 78, 85, 86, 88, 91, 106]) (ng := []) (sy := []) rfl 300 9 _ _ _ _ h
theorem y_261_12 {m : z_M} {g : z_g} {Q : q_V → q_S → Prop} {a1 a2 s0 : Int} (h :
    z_ok2 s0 (3 : Int) ∧
    (s0 = (3 : Int) →
      z_C 196 [.inl a2] (z_st m g) (fun v S => z_T 261 18 [.inr (.inr 131), .inl a1, .inl a2, q_dead, q_dead, q_dead, q_dead] (q_push v []) S Q)) ∧
    (¬ s0 = (3 : Int) →
      Q (.inl (-3 : Int)) (z_st m g))) :
    z_T 261 12 [.inr (.inr 131), .inl a1, .inl a2, q_dead, q_dead, q_dead, q_dead] [.inl s0] (z_st m g) Q := y_wp_T (cd := q_c261) (cs := [3, 9, 12, 18, 20, 25, 27, 30, 36, 41, 42, 44, 47, 53, 54, 58, 61, 71, 75, 78, 85, 86, 88, 91, 106]) (ng := []) (sy := []) rfl 300 12 _ _ _ _ h
theorem y_261_18 {m : z_M} {g : z_g} {Q : q_V → q_S → Prop} {a1 a2 s0 : Int} (h :
    z_C 200 [.inl a2] (z_st m g) (fun v S => z_T 261 20 [.inr (.inr 131), .inl a1, .inl a2, q_dead, q_dead, q_dead, q_dead] (q_push v [.inl s0]) S Q)) :
    z_T 261 18 [.inr (.inr 131), .inl a1, .inl a2, q_dead, q_dead, q_dead, q_dead] [.inl s0] (z_st m g) Q := y_wp_T (cd := q_c261) (cs := [3, 9, 12, 18, 20, 25, 27, 30, 36, 41, 42, 44, 47, 53, 54, 58, 61, 71, 75, 78, 85, 86, 88, 91, 106]) (ng := []) (sy := []) rfl 300 18 _ _ _ _ h
theorem y_261_20 {m : z_M} {g : z_g} {Q : q_V → q_S → Prop} {a1 a2 s0 s1 : Int} (h :
    z_dv s1 s0 ∧
    z_C 198 [.inl a2, .inl (1 : Int)] (z_st m g) (fun v S => z_T 261 25 [.inr (.inr 131), .inl a1, .inl a2, .inl (s1 / s0), q_dead, q_dead, q_dead] (q_push v []) S Q)) :
    z_T 261 20 [.inr (.inr 131), .inl a1, .inl a2, q_dead, q_dead, q_dead, q_dead] [.inl s0, .inl s1] (z_st m g) Q := y_wp_T (cd := q_c261) (cs := [3, 9, 12, 18, 20, 25, 27, 30, 36, 41, 42, 44, 47, 53, 54, 58, 61, 71, 75, 78, 85, 86, 88, 91, 106]) (ng := []) (sy := []) rfl 300 20 _ _ _ _ h
theorem y_261_25 {m : z_M} {g : z_g} {Q : q_V → q_S → Prop} {a1 a2 a3 s0 : Int} (h :
    z_C 199 [.inl a2] (z_st m g) (fun v S => z_T 261 27 [.inr (.inr 131), .inl a1, .inl a2, .inl a3, q_dead, q_dead, q_dead] (q_push v [.inl s0]) S Q)) :
    z_T 261 25 [.inr (.inr 131), .inl a1, .inl a2, .inl a3, q_dead, q_dead, q_dead] [.inl s0] (z_st m g) Q := y_wp_T (cd := q_c261) (cs := [3, 9, 12, 18, 20, 25, 27, 30, 36, 41, 42, 44, 47, 53, 54, 58, 61, 71, 75, 78, 85, 86, 88, 91, 106]) (ng := []) (sy := []) rfl 300 25 _ _ _ _ h
theorem y_261_27 {m : z_M} {g : z_g} {Q : q_V → q_S → Prop} {a1 a2 a3 s0 s1 : Int} (h :
    z_C 200 [.inl a2] (z_st m g) (fun v S => z_T 261 30 [.inr (.inr 131), .inl a1, .inl a2, .inl a3, q_dead, q_dead, q_dead] (q_push v [.inl (s1 - s0)]) S Q)) :
    z_T 261 27 [.inr (.inr 131), .inl a1, .inl a2, .inl a3, q_dead, q_dead, q_dead] [.inl s0, .inl s1] (z_st m g) Q := y_wp_T (cd := q_c261) (cs := [3, 9, 12, 18, 20, 25, 27, 30, 36, 41, 42, 44, 47, 53, 54, 58, 61, 71, 75, 78, 85, 86, 88, 91, 106]) (ng := []) (sy := []) rfl 300 27 _ _ _ _ h
theorem y_261_30 {m : z_M} {g : z_g} {Q : q_V → q_S → Prop} {a1 a2 a3 s0 s1 : Int} (h :
    z_dv s1 s0 ∧
    z_C 227 [.inr (.inr 131), .inl a3, .inl a3] (z_st m g) (fun v S => z_T 261 36 [.inr (.inr 131), .inl a1, .inl a2, .inl a3, .inl (s1 / s0), q_dead, q_dead] (q_push v []) S Q)) :
    z_T 261 30 [.inr (.inr 131), .inl a1, .inl a2, .inl a3, q_dead, q_dead, q_dead] [.inl s0, .inl s1] (z_st m g) Q := y_wp_T (cd := q_c261) (cs := [3, 9, 12, 18, 20, 25, 27, 30, 36, 41, 42, 44, 47, 53, 54, 58, 61, 71, 75, 78, 85, 86, 88, 91, 106]) (ng := []) (sy := []) rfl 300 30 _ _ _ _ h
theorem y_261_36 {m : z_M} {g : z_g} {Q : q_V → q_S → Prop} {a1 a2 a3 a4 s0 : Int} (h :
    z_C 197 [.inl a2] (z_st m g) (fun v S => z_T 261 41 [.inr (.inr 131), .inl a1, .inl a2, .inl a3, .inl a4, q_dead, q_dead] (q_push v [.inl a1, .inr (.inr 131), .inr (.inr 131), .inl s0]) S Q)) :
    z_T 261 36 [.inr (.inr 131), .inl a1, .inl a2, .inl a3, .inl a4, q_dead, q_dead] [.inl s0] (z_st m g) Q := y_wp_T (cd := q_c261) (cs := [3, 9, 12, 18, 20, 25, 27, 30, 36, 41, 42, 44, 47, 53, 54, 58, 61, 71, 75, 78, 85, 86, 88, 91, 106]) (ng := []) (sy := []) rfl 300 36 _ _ _ _ h
theorem y_261_41 {m : z_M} {g : z_g} {Q : q_V → q_S → Prop} {a1 a2 a3 a4 s0 s1 s4 : Int} (h :
    z_C 214 [.inr (.inr 131), .inl s1, .inl s0] (z_st m g) (fun v S => z_T 261 42 [.inr (.inr 131), .inl a1, .inl a2, .inl a3, .inl a4, q_dead, q_dead] (q_push v [.inr (.inr 131), .inl s4]) S Q)) :
    z_T 261 41 [.inr (.inr 131), .inl a1, .inl a2, .inl a3, .inl a4, q_dead, q_dead] [.inl s0, .inl s1, .inr (.inr 131), .inr (.inr 131), .inl s4] (z_st m g) Q := y_wp_T (cd := q_c261) (cs := [3, 9, 12, 18, 20, 25, 27, 30, 36, 41, 42, 44, 47, 53, 54, 58, 61, 71, 75, 78, 85, 86, 88, 91, 106]) (ng := []) (sy := []) rfl 300 41 _ _ _ _ h
theorem y_261_42 {m : z_M} {g : z_g} {Q : q_V → q_S → Prop} {a1 a2 a3 a4 s0 s2 : Int} (h :
    z_C 227 [.inr (.inr 131), .inl s0, .inl a4] (z_st m g) (fun v S => z_T 261 44 [.inr (.inr 131), .inl a1, .inl a2, .inl a3, .inl a4, q_dead, q_dead] (q_push v [.inl s2]) S Q)) :
    z_T 261 42 [.inr (.inr 131), .inl a1, .inl a2, .inl a3, .inl a4, q_dead, q_dead] [.inl s0, .inr (.inr 131), .inl s2] (z_st m g) Q := y_wp_T (cd := q_c261) (cs := [3, 9, 12, 18, 20, 25, 27, 30, 36, 41, 42, 44, 47, 53, 54, 58, 61, 71, 75, 78, 85, 86, 88, 91, 106]) (ng := []) (sy := []) rfl 300 42 _ _ _ _ h
theorem y_261_44 {m : z_M} {g : z_g} {Q : q_V → q_S → Prop} {a1 a2 a3 a4 s0 s1 : Int} (h :
    z_C 216 [.inr (.inr 131)] (z_st m g) (fun v S => z_T 261 47 [.inr (.inr 131), .inl a1, .inl a2, .inl a3, .inl a4, q_dead, q_dead] (q_push v [.inl (s1 * s0)]) S Q)) :
    z_T 261 44 [.inr (.inr 131), .inl a1, .inl a2, .inl a3, .inl a4, q_dead, q_dead] [.inl s0, .inl s1] (z_st m g) Q := y_wp_T (cd := q_c261) (cs := [3, 9, 12, 18, 20, 25, 27, 30, 36, 41, 42, 44, 47, 53, 54, 58, 61, 71, 75, 78, 85, 86, 88, 91, 106]) (ng := []) (sy := []) rfl 300 44 _ _ _ _ h
theorem y_261_47 {m : z_M} {g : z_g} {Q : q_V → q_S → Prop} {a1 a2 a3 a4 s0 s1 : Int} (h :
    z_dv s1 s0 ∧
    z_C 199 [.inl a2] (z_st m g) (fun v S => z_T 261 53 [.inr (.inr 131), .inl a1, .inl a2, .inl a3, .inl a4, q_dead, q_dead] (q_push v [.inl a1, .inr (.inr 131), .inr (.inr 131), .inl (s1 % s0)]) S Q)) :
    z_T 261 47 [.inr (.inr 131), .inl a1, .inl a2, .inl a3, .inl a4, q_dead, q_dead] [.inl s0, .inl s1] (z_st m g) Q := y_wp_T (cd := q_c261) (cs := [3, 9, 12, 18, 20, 25, 27, 30, 36, 41, 42, 44, 47, 53, 54, 58, 61, 71, 75, 78, 85, 86, 88, 91, 106]) (ng := []) (sy := []) rfl 300 47 _ _ _ _ h
theorem y_261_53 {m : z_M} {g : z_g} {Q : q_V → q_S → Prop} {a1 a2 a3 a4 s0 s1 s4 : Int} (h :
    z_C 214 [.inr (.inr 131), .inl s1, .inl s0] (z_st m g) (fun v S => z_T 261 54 [.inr (.inr 131), .inl a1, .inl a2, .inl a3, .inl a4, q_dead, q_dead] (q_push v [.inr (.inr 131), .inl s4]) S Q)) :
    z_T 261 53 [.inr (.inr 131), .inl a1, .inl a2, .inl a3, .inl a4, q_dead, q_dead] [.inl s0, .inl s1, .inr (.inr 131), .inr (.inr 131), .inl s4] (z_st m g) Q := y_wp_T (cd := q_c261) (cs := [3, 9, 12, 18, 20, 25, 27, 30, 36, 41, 42, 44, 47, 53, 54, 58, 61, 71, 75, 78, 85, 86, 88, 91, 106]) (ng := []) (sy := []) rfl 300 53 _ _ _ _ h
theorem y_261_54 {m : z_M} {g : z_g} {Q : q_V → q_S → Prop} {a1 a2 a3 a4 s0 s2 : Int} (h :
    z_C 227 [.inr (.inr 131), .inl s0, .inl (a3 - a4)] (z_st m g) (fun v S => z_T 261 58 [.inr (.inr 131), .inl a1, .inl a2, .inl a3, .inl a4, q_dead, q_dead] (q_push v [.inl s2]) S Q)) :
    z_T 261 54 [.inr (.inr 131), .inl a1, .inl a2, .inl a3, .inl a4, q_dead, q_dead] [.inl s0, .inr (.inr 131), .inl s2] (z_st m g) Q := y_wp_T (cd := q_c261) (cs := [3, 9, 12, 18, 20, 25, 27, 30, 36, 41, 42, 44, 47, 53, 54, 58, 61, 71, 75, 78, 85, 86, 88, 91, 106]) (ng := []) (sy := []) rfl 300 54 _ _ _ _ h
theorem y_261_58 {m : z_M} {g : z_g} {Q : q_V → q_S → Prop} {a1 a2 a3 a4 s0 s1 : Int} (h :
    z_C 216 [.inr (.inr 131)] (z_st m g) (fun v S => z_T 261 61 [.inr (.inr 131), .inl a1, .inl a2, .inl a3, .inl a4, q_dead, q_dead] (q_push v [.inl (s1 * s0)]) S Q)) :
    z_T 261 58 [.inr (.inr 131), .inl a1, .inl a2, .inl a3, .inl a4, q_dead, q_dead] [.inl s0, .inl s1] (z_st m g) Q := y_wp_T (cd := q_c261) (cs := [3, 9, 12, 18, 20, 25, 27, 30, 36, 41, 42, 44, 47, 53, 54, 58, 61, 71, 75, 78, 85, 86, 88, 91, 106]) (ng := []) (sy := []) rfl 300 58 _ _ _ _ h
theorem y_261_61 {m : z_M} {g : z_g} {Q : q_V → q_S → Prop} {a1 a2 a3 a4 s0 s1 : Int} (h :
    z_dv s1 s0 ∧
    z_C 227 [.inr (.inr 131), .inl (a3 - a4), .inl (a3 - a4)] (z_st m g) (fun v S => z_T 261 71 [.inr (.inr 131), .inl a1, .inl a2, .inl a3, .inl a4, .inl (s1 % s0), q_dead] (q_push v []) S Q)) :
    z_T 261 61 [.inr (.inr 131), .inl a1, .inl a2, .inl a3, .inl a4, q_dead, q_dead] [.inl s0, .inl s1] (z_st m g) Q := y_wp_T (cd := q_c261) (cs := [3, 9, 12, 18, 20, 25, 27, 30, 36, 41, 42, 44, 47, 53, 54, 58, 61, 71, 75, 78, 85, 86, 88, 91, 106]) (ng := []) (sy := []) rfl 300 61 _ _ _ _ h
theorem y_261_71 {m : z_M} {g : z_g} {Q : q_V → q_S → Prop} {a1 a2 a3 a4 a5 s0 : Int} (h :
    z_C 227 [.inr (.inr 131), .inl a4, .inl a4] (z_st m g) (fun v S => z_T 261 75 [.inr (.inr 131), .inl a1, .inl a2, .inl a3, .inl a4, .inl a5, q_dead] (q_push v [.inl s0]) S Q)) :
    z_T 261 71 [.inr (.inr 131), .inl a1, .inl a2, .inl a3, .inl a4, .inl a5, q_dead] [.inl s0] (z_st m g) Q := y_wp_T (cd := q_c261) (cs := [3, 9, 12, 18, 20, 25, 27, 30, 36, 41, 42, 44, 47, 53, 54, 58, 61, 71, 75, 78, 85, 86, 88, 91, 106]) (ng := []) (sy := []) rfl 300 71 _ _ _ _ h
theorem y_261_75 {m : z_M} {g : z_g} {Q : q_V → q_S → Prop} {a1 a2 a3 a4 a5 s0 s1 : Int} (h :
    z_C 216 [.inr (.inr 131)] (z_st m g) (fun v S => z_T 261 78 [.inr (.inr 131), .inl a1, .inl a2, .inl a3, .inl a4, .inl a5, q_dead] (q_push v [.inl (s1 * s0)]) S Q)) :
    z_T 261 75 [.inr (.inr 131), .inl a1, .inl a2, .inl a3, .inl a4, .inl a5, q_dead] [.inl s0, .inl s1] (z_st m g) Q := y_wp_T (cd := q_c261) (cs := [3, 9, 12, 18, 20, 25, 27, 30, 36, 41, 42, 44, 47, 53, 54, 58, 61, 71, 75, 78, 85, 86, 88, 91, 106]) (ng := []) (sy := []) rfl 300 75 _ _ _ _ h
theorem y_261_78 {m : z_M} {g : z_g} {Q : q_V → q_S → Prop} {a1 a2 a3 a4 a5 s0 s1 : Int} (h :
    z_dv s1 s0 ∧
    z_C 198 [.inl a2, .inl (1 : Int)] (z_st m g) (fun v S => z_T 261 85 [.inr (.inr 131), .inl a1, .inl a2, .inl a3, .inl a4, .inl a5, q_dead] (q_push v [.inl a1, .inr (.inr 131), .inr (.inr 131), .inl (s1 % s0)]) S Q)) :
    z_T 261 78 [.inr (.inr 131), .inl a1, .inl a2, .inl a3, .inl a4, .inl a5, q_dead] [.inl s0, .inl s1] (z_st m g) Q := y_wp_T (cd := q_c261) (cs := [3, 9, 12, 18, 20, 25, 27, 30, 36, 41, 42, 44, 47, 53, 54, 58, 61, 71, 75, 78, 85, 86, 88, 91, 106]) (ng := []) (sy := []) rfl 300 78 _ _ _ _ h
theorem y_261_85 {m : z_M} {g : z_g} {Q : q_V → q_S → Prop} {a1 a2 a3 a4 a5 s0 s1 s4 : Int} (h :
    z_C 214 [.inr (.inr 131), .inl s1, .inl s0] (z_st m g) (fun v S => z_T 261 86 [.inr (.inr 131), .inl a1, .inl a2, .inl a3, .inl a4, .inl a5, q_dead] (q_push v [.inr (.inr 131), .inl s4]) S Q)) :
    z_T 261 85 [.inr (.inr 131), .inl a1, .inl a2, .inl a3, .inl a4, .inl a5, q_dead] [.inl s0, .inl s1, .inr (.inr 131), .inr (.inr 131), .inl s4] (z_st m g) Q := y_wp_T (cd := q_c261) (cs := [3, 9, 12, 18, 20, 25, 27, 30, 36, 41, 42, 44, 47, 53, 54, 58, 61, 71, 75, 78, 85, 86, 88, 91, 106]) (ng := []) (sy := []) rfl 300 85 _ _ _ _ h
theorem y_261_86 {m : z_M} {g : z_g} {Q : q_V → q_S → Prop} {a1 a2 a3 a4 a5 s0 s2 : Int} (h :
    z_C 227 [.inr (.inr 131), .inl s0, .inl a3] (z_st m g) (fun v S => z_T 261 88 [.inr (.inr 131), .inl a1, .inl a2, .inl a3, .inl a4, .inl a5, q_dead] (q_push v [.inl s2]) S Q)) :
    z_T 261 86 [.inr (.inr 131), .inl a1, .inl a2, .inl a3, .inl a4, .inl a5, q_dead] [.inl s0, .inr (.inr 131), .inl s2] (z_st m g) Q := y_wp_T (cd := q_c261) (cs := [3, 9, 12, 18, 20, 25, 27, 30, 36, 41, 42, 44, 47, 53, 54, 58, 61, 71, 75, 78, 85, 86, 88, 91, 106]) (ng := []) (sy := []) rfl 300 86 _ _ _ _ h
theorem y_261_88 {m : z_M} {g : z_g} {Q : q_V → q_S → Prop} {a1 a2 a3 a4 a5 s0 s1 : Int} (h :
    z_C 216 [.inr (.inr 131)] (z_st m g) (fun v S => z_T 261 91 [.inr (.inr 131), .inl a1, .inl a2, .inl a3, .inl a4, .inl a5, q_dead] (q_push v [.inl (s1 * s0)]) S Q)) :
    z_T 261 88 [.inr (.inr 131), .inl a1, .inl a2, .inl a3, .inl a4, .inl a5, q_dead] [.inl s0, .inl s1] (z_st m g) Q := y_wp_T (cd := q_c261) (cs := [3, 9, 12, 18, 20, 25, 27, 30, 36, 41, 42, 44, 47, 53, 54, 58, 61, 71, 75, 78, 85, 86, 88, 91, 106]) (ng := []) (sy := []) rfl 300 88 _ _ _ _ h
theorem y_261_91 {m : z_M} {g : z_g} {Q : q_V → q_S → Prop} {a1 a2 a3 a4 a5 s0 s1 : Int} (h :
    z_dv s1 s0 ∧
    z_dv a3 (2 : Int) ∧
    z_ok (a3 % (2 : Int)) ∧
    (¬ (a3 % (2 : Int)) = (0 : Int) →
      z_C 215 [.inr (.inr 131), .inl (a5 + (s1 % s0))] (z_st m g) (fun v S => z_T 261 106 [.inr (.inr 131), .inl a1, .inl a2, .inl a3, .inl a4, .inl a5, .inl (s1 % s0)] (q_push v []) S Q)) ∧
    ((a3 % (2 : Int)) = (0 : Int) →
      z_C 215 [.inr (.inr 131), .inl (a5 - (s1 % s0))] (z_st m g) (fun v S => z_T 261 106 [.inr (.inr 131), .inl a1, .inl a2, .inl a3, .inl a4, .inl a5, .inl (s1 % s0)] (q_push v []) S Q))) :
    z_T 261 91 [.inr (.inr 131), .inl a1, .inl a2, .inl a3, .inl a4, .inl a5, q_dead] [.inl s0, .inl s1] (z_st m g) Q := y_wp_T (cd := q_c261) (cs := [3, 9, 12, 18, 20, 25, 27, 30, 36, 41, 42, 44, 47, 53, 54, 58, 61, 71, 75, 78, 85, 86, 88, 91, 106]) (ng := []) (sy := []) rfl 300 91 _ _ _ _ h
theorem y_261_106 {m : z_M} {g : z_g} {Q : q_V → q_S → Prop} {a1 a2 a3 a4 a5 a6 s0 : Int} (h :
    Q (.inl s0) (z_st m g)) :
    z_T 261 106 [.inr (.inr 131), .inl a1, .inl a2, .inl a3, .inl a4, .inl a5, .inl a6] [.inl s0] (z_st m g) Q := y_wp_T (cd := q_c261) (cs := [3, 9, 12, 18, 20, 25, 27, 30, 36, 41, 42, 44, 47, 53, 54, 58, 61, 71, 75, 78, 85, 86, 88, 91, 106]) (ng := []) (sy := []) rfl 300 106 _ _ _ _ h
theorem y_262P : q_P 262 = (q_c262, 14) := rfl
theorem y_262 {m : z_M} {g : z_g} {Q : q_V → q_S → Prop} {a1 a2 a3 : Int} (h :
    z_C 209 [.inr (.inr 131), .inl a1] (z_st m g) (fun v S => z_T 262 3 [.inr (.inr 131), .inl a1, .inl a2, .inl a3, q_dead, q_dead, q_dead, q_dead, q_dead, q_dead, q_dead, q_dead, q_dead, q_dead] (q_push v []) S Q)) :
    z_C 262 [.inr (.inr 131), .inl a1, .inl a2, .inl a3] (z_st m g) Q := y_C_wp (cs := [3, 8, 13, 19, 22, 29, 41, 51, 53, 84, 91, 107]) (ng := []) (sy := []) (n := 300) y_262P h
theorem y_262_3 {m : z_M} {g : z_g} {Q : q_V → q_S → Prop} {a1 a2 a3 s0 : Int} (h :
    z_ok s0 ∧
    (s0 = (0 : Int) →
      Q (.inr (.inl (-9223372036854775808 : Int))) (z_st m g)) ∧
    (¬ s0 = (0 : Int) →
      z_C 188 [.inl a2, .inl (2 : Int), .inl (20 : Int)] (z_st m g) (fun v S => z_T 262 8 [.inr (.inr 131), .inl a1, .inl a2, .inl a3, q_dead, q_dead, q_dead, q_dead, q_dead, q_dead, q_dead, q_dead, q_dead, q_dead] (q_push v []) S Q))) :
    z_T 262 3 [.inr (.inr 131), .inl a1, .inl a2, .inl a3, q_dead, q_dead, q_dead, q_dead, q_dead, q_dead, q_dead, q_dead, q_dead, q_dead] [.inl s0] (z_st m g) Q := y_wp_T (cd := q_c262) (cs := [3, 8, 13, 19, 22, 29, 41, 51, 53, 84, 91, 107]) (ng := []) (sy := []) rfl 300 3 _ _ _ _ h
theorem y_262_8 {m : z_M} {g : z_g} {Q : q_V → q_S → Prop} {a1 a2 a3 s0 : Int} (h :
    z_ok s0 ∧
    (s0 = (0 : Int) →
      Q (.inr (.inl (-9223372036854775808 : Int))) (z_st m g)) ∧
    (¬ s0 = (0 : Int) →
      z_C 188 [.inl a3, .inl (0 : Int), .inl (1 : Int)] (z_st m g) (fun v S => z_T 262 13 [.inr (.inr 131), .inl a1, .inl a2, .inl a3, q_dead, q_dead, q_dead, q_dead, q_dead, q_dead, q_dead, q_dead, q_dead, q_dead] (q_push v []) S Q))) :
    z_T 262 8 [.inr (.inr 131), .inl a1, .inl a2, .inl a3, q_dead, q_dead, q_dead, q_dead, q_dead, q_dead, q_dead, q_dead, q_dead, q_dead] [.inl s0] (z_st m g) Q := y_wp_T (cd := q_c262) (cs := [3, 8, 13, 19, 22, 29, 41, 51, 53, 84, 91, 107]) (ng := []) (sy := []) rfl 300 8 _ _ _ _ h
theorem y_262_13 {m : z_M} {g : z_g} {Q : q_V → q_S → Prop} {a1 a2 a3 s0 : Int} (h :
    z_ok s0 ∧
    (¬ s0 = (0 : Int) →
      z_C 210 [.inr (.inr 131), .inl a1] (z_st m g) (fun v S => z_T 262 19 [.inr (.inr 131), .inl a1, .inl a2, .inl a3, q_dead, q_dead, q_dead, q_dead, q_dead, q_dead, q_dead, q_dead, q_dead, q_dead] (q_push v []) S Q)) ∧
    (s0 = (0 : Int) →
      Q (.inr (.inl (-9223372036854775808 : Int))) (z_st m g))) :
    z_T 262 13 [.inr (.inr 131), .inl a1, .inl a2, .inl a3, q_dead, q_dead, q_dead, q_dead, q_dead, q_dead, q_dead, q_dead, q_dead, q_dead] [.inl s0] (z_st m g) Q := y_wp_T (cd := q_c262) (cs := [3, 8, 13, 19, 22, 29, 41, 51, 53, 84, 91, 107]) (ng := []) (sy := []) rfl 300 13 _ _ _ _ h
theorem y_262_19 {m : z_M} {g : z_g} {Q : q_V → q_S → Prop} {a1 a2 a3 s0 : Int} (h :
    z_C 192 [.inl s0] (z_st m g) (fun v S => z_T 262 22 [.inr (.inr 131), .inl a1, .inl a2, .inl a3, .inl s0, q_dead, q_dead, q_dead, q_dead, q_dead, q_dead, q_dead, q_dead, q_dead] (q_push v []) S Q)) :
    z_T 262 19 [.inr (.inr 131), .inl a1, .inl a2, .inl a3, q_dead, q_dead, q_dead, q_dead, q_dead, q_dead, q_dead, q_dead, q_dead, q_dead] [.inl s0] (z_st m g) Q := y_wp_T (cd := q_c262) (cs := [3, 8, 13, 19, 22, 29, 41, 51, 53, 84, 91, 107]) (ng := []) (sy := []) rfl 300 19 _ _ _ _ h
theorem y_262_22 {m : z_M} {g : z_g} {Q : q_V → q_S → Prop} {a1 a2 a3 a4 s0 : Int} (h :
    z_T 262 29 [.inr (.inr 131), .inl a1, .inl a2, .inl a3, .inl a4, .inl s0, .inr (.inl (0 : Int)), q_dead, .inr (.inl (1 : Int)), q_dead, .inl (0 : Int), q_dead, q_dead, q_dead] [] (z_st m g) Q) :
    z_T 262 22 [.inr (.inr 131), .inl a1, .inl a2, .inl a3, .inl a4, q_dead, q_dead, q_dead, q_dead, q_dead, q_dead, q_dead, q_dead, q_dead] [.inl s0] (z_st m g) Q := y_wp_T (cd := q_c262) (cs := [3, 8, 13, 19, 22, 29, 41, 51, 53, 84, 91, 107]) (ng := []) (sy := []) rfl 300 22 _ _ _ _ h
theorem y_262_29 {m : z_M} {g : z_g} {Q : q_V → q_S → Prop} {a1 a2 a3 a4 a5 a6 a8 a10 : Int} (h :
    z_ok2 a10 a5 ∧
    (a5 ≤ a10 →
      z_T 262 41 [.inr (.inr 131), .inl a1, .inl a2, .inl a3, .inl a4, .inl a5, .inr (.inl a6), q_dead, .inr (.inl a8), q_dead, .inl (0 : Int), q_dead, q_dead, q_dead] [] (z_st m g) Q) ∧
    (a10 < a5 →
      z_ok a2 ∧
      z_T 262 29 [.inr (.inr 131), .inl a1, .inl a2, .inl a3, .inl a4, .inl a5, .inr (.inl a6), q_dead, .inr (.inl (a8 * a2)), q_dead, .inl (a10 + (1 : Int)), q_dead, q_dead, q_dead] [] (z_st m g) Q)) :
    z_T 262 29 [.inr (.inr 131), .inl a1, .inl a2, .inl a3, .inl a4, .inl a5, .inr (.inl a6), q_dead, .inr (.inl a8), q_dead, .inl a10, q_dead, q_dead, q_dead] [] (z_st m g) Q := y_wp_T (cd := q_c262) (cs := [3, 8, 13, 19, 22, 29, 41, 51, 53, 84, 91, 107]) (ng := []) (sy := []) rfl 300 29 _ _ _ _ h
theorem y_262_41 {m : z_M} {g : z_g} {Q : q_V → q_S → Prop} {a1 a2 a3 a4 a5 a6 a8 a10 : Int} {da11 da13 : q_V} (h :
    z_ok2 a10 (q_bin 6 (1 : Int) a5) ∧
    ((q_bin 6 (1 : Int) a5) ≤ a10 →
      z_ok a3 ∧
      (¬ a3 = (0 : Int) →
        z_C 263 [.inr (.inl a6), .inr (.inl a8)] (z_st m g) (fun v S => z_T 262 107 [.inr (.inr 131), .inl a1, .inl a2, .inl a3, .inl a4, .inl a5, .inr (.inl a6), q_dead, .inr (.inl a8), q_dead, .inl a10, da11, q_dead, da13] (q_push v [.inr (.inl a8)]) S Q)) ∧
      (a3 = (0 : Int) →
        z_C 263 [.inr (.inl a6), .inr (.inl a8)] (z_st m g) (fun v S => z_T 262 107 [.inr (.inr 131), .inl a1, .inl a2, .inl a3, .inl a4, .inl a5, .inr (.inl a6), q_dead, .inr (.inl a8), q_dead, .inl a10, da11, q_dead, da13] (q_push v [.inr (.inl a6)]) S Q))) ∧
    (a10 < (q_bin 6 (1 : Int) a5) →
      z_C 213 [.inr (.inr 131), .inl a1] (z_st m g) (fun v S => z_T 262 51 [.inr (.inr 131), .inl a1, .inl a2, .inl a3, .inl a4, .inl a5, .inr (.inl a6), q_dead, .inr (.inl a8), q_dead, .inl a10, .inr (.inl (1 : Int)), q_dead, da13] (q_push v []) S Q))) :
    z_T 262 41 [.inr (.inr 131), .inl a1, .inl a2, .inl a3, .inl a4, .inl a5, .inr (.inl a6), q_dead, .inr (.inl a8), q_dead, .inl a10, da11, q_dead, da13] [] (z_st m g) Q := y_wp_T (cd := q_c262) (cs := [3, 8, 13, 19, 22, 29, 41, 51, 53, 84, 91, 107]) (ng := []) (sy := []) rfl 300 41 _ _ _ _ h
theorem y_262_51 {m : z_M} {g : z_g} {Q : q_V → q_S → Prop} {a1 a2 a3 a4 a5 a6 a8 a10 a11 : Int} {da13 : q_V} (h :
    z_T 262 53 [.inr (.inr 131), .inl a1, .inl a2, .inl a3, .inl a4, .inl a5, .inr (.inl a6), q_dead, .inr (.inl a8), q_dead, .inl a10, .inr (.inl a11), q_dead, .inl (0 : Int)] [] (z_st m g) Q) :
    z_T 262 51 [.inr (.inr 131), .inl a1, .inl a2, .inl a3, .inl a4, .inl a5, .inr (.inl a6), q_dead, .inr (.inl a8), q_dead, .inl a10, .inr (.inl a11), q_dead, da13] [] (z_st m g) Q := y_wp_T (cd := q_c262) (cs := [3, 8, 13, 19, 22, 29, 41, 51, 53, 84, 91, 107]) (ng := []) (sy := []) rfl 300 51 _ _ _ _ h
theorem y_262_53 {m : z_M} {g : z_g} {Q : q_V → q_S → Prop} {a1 a2 a3 a4 a5 a6 a8 a10 a11 a13 : Int} (h :
    z_ok2 a13 a5 ∧
    (a5 ≤ a13 →
      z_C 260 [.inr (.inr 131)] (z_st m g) (fun v S => z_T 262 91 [.inr (.inr 131), .inl a1, .inl a2, .inl a3, .inl a4, .inl a5, .inr (.inl a6), q_dead, .inr (.inl a8), q_dead, .inl a10, .inr (.inl a11), q_dead, .inl a13] (q_push v [.inr (.inl a6)]) S Q)) ∧
    (a13 < a5 →
      z_ok2 (q_bin 3 (q_bin 7 a10 a13) (1 : Int)) (1 : Int) ∧
      (¬ (q_bin 3 (q_bin 7 a10 a13) (1 : Int)) = (1 : Int) →
        z_ok (a2 - (1 : Int)) ∧
        z_ok2 (q_bin 3 (q_bin 7 a10 a13) (1 : Int)) (1 : Int) ∧
        (¬ (q_bin 3 (q_bin 7 a10 a13) (1 : Int)) = (1 : Int) →
          z_T 262 53 [.inr (.inr 131), .inl a1, .inl a2, .inl a3, .inl a4, .inl a5, .inr (.inl a6), q_dead, .inr (.inl a8), q_dead, .inl a10, .inr (.inl (a11 * (a2 - (1 : Int)))), q_dead, .inl (a13 + (1 : Int))] [] (z_st m g) Q) ∧
        ((q_bin 3 (q_bin 7 a10 a13) (1 : Int)) = (1 : Int) →
          z_C 198 [.inl a4, .inl a13] (z_st m g) (fun v S => z_T 262 84 [.inr (.inr 131), .inl a1, .inl a2, .inl a3, .inl a4, .inl a5, .inr (.inl a6), q_dead, .inr (.inl a8), q_dead, .inl a10, .inr (.inl (a11 * (a2 - (1 : Int)))), q_dead, .inl a13] (q_push v [.inr (.inr 138)]) S Q))) ∧
      ((q_bin 3 (q_bin 7 a10 a13) (1 : Int)) = (1 : Int) →
        z_ok2 (q_bin 3 (q_bin 7 a10 a13) (1 : Int)) (1 : Int) ∧
        (¬ (q_bin 3 (q_bin 7 a10 a13) (1 : Int)) = (1 : Int) →
          z_T 262 53 [.inr (.inr 131), .inl a1, .inl a2, .inl a3, .inl a4, .inl a5, .inr (.inl a6), q_dead, .inr (.inl a8), q_dead, .inl a10, .inr (.inl (a11 * (1 : Int))), q_dead, .inl (a13 + (1 : Int))] [] (z_st m g) Q) ∧
        ((q_bin 3 (q_bin 7 a10 a13) (1 : Int)) = (1 : Int) →
          z_C 198 [.inl a4, .inl a13] (z_st m g) (fun v S => z_T 262 84 [.inr (.inr 131), .inl a1, .inl a2, .inl a3, .inl a4, .inl a5, .inr (.inl a6), q_dead, .inr (.inl a8), q_dead, .inl a10, .inr (.inl (a11 * (1 : Int))), q_dead, .inl a13] (q_push v [.inr (.inr 138)]) S Q))))) :
    z_T 262 53 [.inr (.inr 131), .inl a1, .inl a2, .inl a3, .inl a4, .inl a5, .inr (.inl a6), q_dead, .inr (.inl a8), q_dead, .inl a10, .inr (.inl a11), q_dead, .inl a13] [] (z_st m g) Q := y_wp_T (cd := q_c262) (cs := [3, 8, 13, 19, 22, 29, 41, 51, 53, 84, 91, 107]) (ng := []) (sy := []) rfl 300 53 _ _ _ _ h
theorem y_262_84 {m : z_M} {g : z_g} {Q : q_V → q_S → Prop} {a1 a2 a3 a4 a5 a6 a8 a10 a11 a13 s0 : Int} (h :
    z_in s0 13 ∧
    z_T 262 53 [.inr (.inr 131), .inl a1, .inl a2, .inl a3, .inl a4, .inl a5, .inr (.inl a6), q_dead, .inr (.inl a8), q_dead, .inl a10, .inr (.inl a11), q_dead, .inl (a13 + (1 : Int))] [] (z_st (q_upd m 138 ((s0).toNat) (0 : Int)) g) Q) :
    z_T 262 84 [.inr (.inr 131), .inl a1, .inl a2, .inl a3, .inl a4, .inl a5, .inr (.inl a6), q_dead, .inr (.inl a8), q_dead, .inl a10, .inr (.inl a11), q_dead, .inl a13] [.inl s0, .inr (.inr 138)] (z_st m g) Q := y_wp_T (cd := q_c262) (cs := [3, 8, 13, 19, 22, 29, 41, 51, 53, 84, 91, 107]) (ng := []) (sy := []) rfl 300 84 _ _ _ _ h
theorem y_262_91 {m : z_M} {g : z_g} {Q : q_V → q_S → Prop} {a1 a2 a3 a4 a5 a6 a8 a10 a11 a13 s0 s1 : Int} (h :
    z_ok s0 ∧
    (s0 = (0 : Int) →
      z_T 262 41 [.inr (.inr 131), .inl a1, .inl a2, .inl a3, .inl a4, .inl a5, .inr (.inl (s1 + (0 : Int))), q_dead, .inr (.inl a8), q_dead, .inl (a10 + (1 : Int)), .inr (.inl a11), q_dead, .inl a13] [] (z_st m g) Q) ∧
    (¬ s0 = (0 : Int) →
      z_T 262 41 [.inr (.inr 131), .inl a1, .inl a2, .inl a3, .inl a4, .inl a5, .inr (.inl (s1 + a11)), q_dead, .inr (.inl a8), q_dead, .inl (a10 + (1 : Int)), .inr (.inl a11), q_dead, .inl a13] [] (z_st m g) Q)) :
    z_T 262 91 [.inr (.inr 131), .inl a1, .inl a2, .inl a3, .inl a4, .inl a5, .inr (.inl a6), q_dead, .inr (.inl a8), q_dead, .inl a10, .inr (.inl a11), q_dead, .inl a13] [.inl s0, .inr (.inl s1)] (z_st m g) Q := y_wp_T (cd := q_c262) (cs := [3, 8, 13, 19, 22, 29, 41, 51, 53, 84, 91, 107]) (ng := []) (sy := []) rfl 300 91 _ _ _ _ h
theorem y_262_107 {m : z_M} {g : z_g} {Q : q_V → q_S → Prop} {a1 a2 a3 a4 a5 a6 a8 a10 s0 s1 : Int} {da11 da13 : q_V} (h :
    z_dl s1 s0 ∧
    Q (.inr (.inl (s1 / s0))) (z_st m g)) :
    z_T 262 107 [.inr (.inr 131), .inl a1, .inl a2, .inl a3, .inl a4, .inl a5, .inr (.inl a6), q_dead, .inr (.inl a8), q_dead, .inl a10, da11, q_dead, da13] [.inr (.inl s0), .inr (.inl s1)] (z_st m g) Q := y_wp_T (cd := q_c262) (cs := [3, 8, 13, 19, 22, 29, 41, 51, 53, 84, 91, 107]) (ng := []) (sy := []) rfl 300 107 _ _ _ _ h
