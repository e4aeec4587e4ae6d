/-! segments of the methods (written by wip/whole/segall.py) -/
theorem y_263P : q_P 263 = (q_c263, 10) := rfl
theorem y_263 {m : z_M} {g : z_g} {Q : q_V → q_S → Prop} {a0 a2 : Int} (h :
    z_T 263 4 [.inr (.inl a0), q_dead, .inr (.inl a2), q_dead, .inr (.inl a0), q_dead, .inr (.inl a2), q_dead, q_dead, q_dead] [] (z_st m g) Q) :
    z_C 263 [.inr (.inl a0), .inr (.inl a2)] (z_st m g) Q := y_C_wp (cs := [4]) (ng := []) (sy := []) (n := 300) y_263P h
theorem y_263_4 {m : z_M} {g : z_g} {Q : q_V → q_S → Prop} {a0 a2 a4 a6 : Int} {da8 : q_V} (h :
    z_okl2 a6 (0 : Int) ∧
    z_ok (if a6 < (0 : Int) then (-1 : Int) else if a6 = (0 : Int) then 0 else 1) ∧
    ((if a6 < (0 : Int) then (-1 : Int) else if a6 = (0 : Int) then 0 else 1) = (0 : Int) →
      Q (.inr (.inl a4)) (z_st m g)) ∧
    (¬ (if a6 < (0 : Int) then (-1 : Int) else if a6 = (0 : Int) then 0 else 1) = (0 : Int) →
      z_dl a4 a6 ∧
      z_T 263 4 [.inr (.inl a0), q_dead, .inr (.inl a2), q_dead, .inr (.inl a6), q_dead, .inr (.inl (a4 % a6)), q_dead, .inr (.inl (a4 % a6)), q_dead] [] (z_st m g) Q)) :
    z_T 263 4 [.inr (.inl a0), q_dead, .inr (.inl a2), q_dead, .inr (.inl a4), q_dead, .inr (.inl a6), q_dead, da8, q_dead] [] (z_st m g) Q := y_wp_T (cd := q_c263) (cs := [4]) (ng := []) (sy := []) rfl 300 4 _ _ _ _ h
theorem y_264P : q_P 264 = (q_c264, 3) := rfl
theorem y_264 {m : z_M} {g : z_g} {Q : q_V → q_S → Prop} {a1 a2 : Int} (h :
    z_ok2 a1 (-1 : Int) ∧
    (¬ a1 = (-1 : Int) →
      z_C 188 [.inl a1, .inl (0 : Int), .inl (30 : Int)] (z_st m g) (fun v S => z_T 264 12 [.inr (.inr 131), .inl a1, .inl a2] (q_push v []) S Q)) ∧
    (a1 = (-1 : Int) →
      Q (.inl (0 : Int)) (z_st (q_upd m 131 28 (0 : Int)) g))) :
    z_C 264 [.inr (.inr 131), .inl a1, .inl a2] (z_st m g) Q := y_C_wp (cs := [12, 17]) (ng := []) (sy := []) (n := 300) y_264P h
theorem y_264_12 {m : z_M} {g : z_g} {Q : q_V → q_S → Prop} {a1 a2 s0 : Int} (h :
    z_ok s0 ∧
    (s0 = (0 : Int) →
      Q (.inl (-2 : Int)) (z_st m g)) ∧
    (¬ s0 = (0 : Int) →
      z_C 188 [.inl a2, .inl (0 : Int), .inl (30 : Int)] (z_st m g) (fun v S => z_T 264 17 [.inr (.inr 131), .inl a1, .inl a2] (q_push v []) S Q))) :
    z_T 264 12 [.inr (.inr 131), .inl a1, .inl a2] [.inl s0] (z_st m g) Q := y_wp_T (cd := q_c264) (cs := [12, 17]) (ng := []) (sy := []) rfl 300 12 _ _ _ _ h
theorem y_264_17 {m : z_M} {g : z_g} {Q : q_V → q_S → Prop} {a1 a2 s0 : Int} (h :
    z_ok s0 ∧
    (¬ s0 = (0 : Int) →
      z_ok2 (m 131 28) (4 : Int) ∧
      (¬ (m 131 28) = (4 : Int) →
        z_in (m 131 28) 4 ∧
        z_in (m 131 28) 4 ∧
        Q (.inl ((m 131 28) + (1 : Int))) (z_st (q_upd (q_upd (q_upd m 151 ((m 131 28).toNat) a1) 152 ((m 131 28).toNat) a2) 131 28 ((m 131 28) + (1 : Int))) g)) ∧
      ((m 131 28) = (4 : Int) →
        Q (.inl (-4 : Int)) (z_st m g))) ∧
    (s0 = (0 : Int) →
      Q (.inl (-2 : Int)) (z_st m g))) :
    z_T 264 17 [.inr (.inr 131), .inl a1, .inl a2] [.inl s0] (z_st m g) Q := y_wp_T (cd := q_c264) (cs := [12, 17]) (ng := []) (sy := []) rfl 300 17 _ _ _ _ h
theorem y_265P : q_P 265 = (q_c265, 9) := rfl
theorem y_265 {m : z_M} {g : z_g} {Q : q_V → q_S → Prop} {a1 a2 a3 : Int} (h :
    z_C 209 [.inr (.inr 131), .inl a1] (z_st m g) (fun v S => z_T 265 3 [.inr (.inr 131), .inl a1, .inl a2, .inl a3, q_dead, q_dead, q_dead, q_dead, q_dead] (q_push v []) S Q)) :
    z_C 265 [.inr (.inr 131), .inl a1, .inl a2, .inl a3] (z_st m g) Q := y_C_wp (cs := [3, 7, 9, 14, 34, 37, 47, 49]) (ng := []) (sy := []) (n := 300) y_265P h
theorem y_265_3 {m : z_M} {g : z_g} {Q : q_V → q_S → Prop} {a1 a2 a3 s0 : Int} (h :
    z_ok s0 ∧
    (s0 = (0 : Int) →
      Q (.inl (-1 : Int)) (z_st m g)) ∧
    (¬ s0 = (0 : Int) →
      z_C 210 [.inr (.inr 131), .inl a1] (z_st m g) (fun v S => z_T 265 7 [.inr (.inr 131), .inl a1, .inl a2, .inl a3, q_dead, q_dead, q_dead, q_dead, q_dead] (q_push v []) S Q))) :
    z_T 265 3 [.inr (.inr 131), .inl a1, .inl a2, .inl a3, q_dead, q_dead, q_dead, q_dead, q_dead] [.inl s0] (z_st m g) Q := y_wp_T (cd := q_c265) (cs := [3, 7, 9, 14, 34, 37, 47, 49]) (ng := []) (sy := []) rfl 300 3 _ _ _ _ h
theorem y_265_7 {m : z_M} {g : z_g} {Q : q_V → q_S → Prop} {a1 a2 a3 s0 : Int} (h :
    z_C 204 [.inl s0, .inl a2] (z_st m g) (fun v S => z_T 265 9 [.inr (.inr 131), .inl a1, .inl a2, .inl a3, q_dead, q_dead, q_dead, q_dead, q_dead] (q_push v []) S Q)) :
    z_T 265 7 [.inr (.inr 131), .inl a1, .inl a2, .inl a3, q_dead, q_dead, q_dead, q_dead, q_dead] [.inl s0] (z_st m g) Q := y_wp_T (cd := q_c265) (cs := [3, 7, 9, 14, 34, 37, 47, 49]) (ng := []) (sy := []) rfl 300 7 _ _ _ _ h
theorem y_265_9 {m : z_M} {g : z_g} {Q : q_V → q_S → Prop} {a1 a2 a3 s0 : Int} (h :
    z_ok s0 ∧
    (s0 = (0 : Int) →
      Q (.inl (-1 : Int)) (z_st m g)) ∧
    (¬ s0 = (0 : Int) →
      z_C 188 [.inl a3, .inl (0 : Int), .inl (1 : Int)] (z_st m g) (fun v S => z_T 265 14 [.inr (.inr 131), .inl a1, .inl a2, .inl a3, q_dead, q_dead, q_dead, q_dead, q_dead] (q_push v []) S Q))) :
    z_T 265 9 [.inr (.inr 131), .inl a1, .inl a2, .inl a3, q_dead, q_dead, q_dead, q_dead, q_dead] [.inl s0] (z_st m g) Q := y_wp_T (cd := q_c265) (cs := [3, 7, 9, 14, 34, 37, 47, 49]) (ng := []) (sy := []) rfl 300 9 _ _ _ _ h
theorem y_265_14 {m : z_M} {g : z_g} {Q : q_V → q_S → Prop} {a1 a2 a3 s0 : Int} (h :
    z_ok s0 ∧
    (¬ s0 = (0 : Int) →
      z_in (((13 : Int) * a1) + a2) 78 ∧
      z_C 216 [.inr (.inr 131)] (z_st m g) (fun v S => z_T 265 34 [.inr (.inr 131), .inl a1, .inl a2, .inl a3, .inl (((13 : Int) * a1) + a2), .inl (m 137 ((((13 : Int) * a1) + a2).toNat)), .inl (0 : Int), .inl (-5 : Int), q_dead] (q_push v []) S Q)) ∧
    (s0 = (0 : Int) →
      Q (.inl (-1 : Int)) (z_st m g))) :
    z_T 265 14 [.inr (.inr 131), .inl a1, .inl a2, .inl a3, q_dead, q_dead, q_dead, q_dead, q_dead] [.inl s0] (z_st m g) Q := y_wp_T (cd := q_c265) (cs := [3, 7, 9, 14, 34, 37, 47, 49]) (ng := []) (sy := []) rfl 300 14 _ _ _ _ h
theorem y_265_34 {m : z_M} {g : z_g} {Q : q_V → q_S → Prop} {a1 a2 a3 a4 a5 a6 a7 s0 : Int} (h :
    z_T 265 37 [.inr (.inr 131), .inl a1, .inl a2, .inl a3, .inl a4, .inl a5, .inl a6, .inl a7, .inl (s0 - (1 : Int))] [] (z_st m g) Q) :
    z_T 265 34 [.inr (.inr 131), .inl a1, .inl a2, .inl a3, .inl a4, .inl a5, .inl a6, .inl a7, q_dead] [.inl s0] (z_st m g) Q := y_wp_T (cd := q_c265) (cs := [3, 7, 9, 14, 34, 37, 47, 49]) (ng := []) (sy := []) rfl 300 34 _ _ _ _ h
theorem y_265_37 {m : z_M} {g : z_g} {Q : q_V → q_S → Prop} {a1 a2 a3 a4 a5 a6 a7 a8 : Int} (h :
    z_ok a8 ∧
    (a8 < (0 : Int) →
      z_in a4 78 ∧
      z_ok a3 ∧
      (¬ a3 = (0 : Int) →
        Q (.inl a7) (z_st (q_upd m 137 ((a4).toNat) a5) g)) ∧
      (a3 = (0 : Int) →
        Q (.inl a6) (z_st (q_upd m 137 ((a4).toNat) a5) g))) ∧
    ((0 : Int) ≤ a8 →
      z_in a4 78 ∧
      z_C 213 [.inr (.inr 131), .inl a1] (z_st (q_upd m 137 ((a4).toNat) a8) g) (fun v S => z_T 265 47 [.inr (.inr 131), .inl a1, .inl a2, .inl a3, .inl a4, .inl a5, .inl a6, .inl a7, .inl a8] (q_push v []) S Q))) :
    z_T 265 37 [.inr (.inr 131), .inl a1, .inl a2, .inl a3, .inl a4, .inl a5, .inl a6, .inl a7, .inl a8] [] (z_st m g) Q := y_wp_T (cd := q_c265) (cs := [3, 7, 9, 14, 34, 37, 47, 49]) (ng := []) (sy := []) rfl 300 37 _ _ _ _ h
theorem y_265_47 {m : z_M} {g : z_g} {Q : q_V → q_S → Prop} {a1 a2 a3 a4 a5 a6 a7 a8 : Int} (h :
    z_C 266 [.inr (.inr 131)] (z_st m g) (fun v S => z_T 265 49 [.inr (.inr 131), .inl a1, .inl a2, .inl a3, .inl a4, .inl a5, .inl a6, .inl a7, .inl a8] (q_push v []) S Q)) :
    z_T 265 47 [.inr (.inr 131), .inl a1, .inl a2, .inl a3, .inl a4, .inl a5, .inl a6, .inl a7, .inl a8] [] (z_st m g) Q := y_wp_T (cd := q_c265) (cs := [3, 7, 9, 14, 34, 37, 47, 49]) (ng := []) (sy := []) rfl 300 47 _ _ _ _ h
theorem y_265_49 {m : z_M} {g : z_g} {Q : q_V → q_S → Prop} {a1 a2 a3 a4 a5 a6 a7 a8 s0 : Int} (h :
    z_ok s0 ∧
    (¬ s0 = (0 : Int) →
      z_T 265 37 [.inr (.inr 131), .inl a1, .inl a2, .inl a3, .inl a4, .inl a5, .inl (a6 + (1 : Int)), .inl a8, .inl (a8 + (-1 : Int))] [] (z_st m g) Q) ∧
    (s0 = (0 : Int) →
      z_T 265 37 [.inr (.inr 131), .inl a1, .inl a2, .inl a3, .inl a4, .inl a5, .inl a6, .inl a7, .inl (a8 + (-1 : Int))] [] (z_st m g) Q)) :
    z_T 265 49 [.inr (.inr 131), .inl a1, .inl a2, .inl a3, .inl a4, .inl a5, .inl a6, .inl a7, .inl a8] [.inl s0] (z_st m g) Q := y_wp_T (cd := q_c265) (cs := [3, 7, 9, 14, 34, 37, 47, 49]) (ng := []) (sy := []) rfl 300 49 _ _ _ _ h
theorem y_266P : q_P 266 = (q_c266, 3) := rfl
theorem y_266 {m : z_M} {g : z_g} {Q : q_V → q_S → Prop} (h :
    z_T 266 4 [.inr (.inr 131), .inl (1 : Int), .inl (0 : Int)] [] (z_st m g) Q) :
    z_C 266 [.inr (.inr 131)] (z_st m g) Q := y_C_wp (cs := [4, 16, 17, 23]) (ng := []) (sy := []) (n := 300) y_266P h
theorem y_266_4 {m : z_M} {g : z_g} {Q : q_V → q_S → Prop} {a1 a2 : Int} (h :
    z_ok2 a2 (m 131 28) ∧
    ((m 131 28) ≤ a2 →
      (a1 = 0 ∨ a1 = 1) ∧ Q (.inl a1) (z_st m g)) ∧
    (a2 < (m 131 28) →
      z_in a2 4 ∧
      z_C 215 [.inr (.inr 131), .inl (m 151 ((a2).toNat))] (z_st m g) (fun v S => z_T 266 16 [.inr (.inr 131), .inl a1, .inl a2] (q_push v [.inr (.inr 131), .inl a1]) S Q))) :
    z_T 266 4 [.inr (.inr 131), .inl a1, .inl a2] [] (z_st m g) Q := y_wp_T (cd := q_c266) (cs := [4, 16, 17, 23]) (ng := [32]) (sy := []) rfl 300 4 _ _ _ _ h
theorem y_266_16 {m : z_M} {g : z_g} {Q : q_V → q_S → Prop} {a1 a2 s0 s2 : Int} (h :
    z_C 230 [.inr (.inr 131), .inl s0] (z_st m g) (fun v S => z_T 266 17 [.inr (.inr 131), .inl a1, .inl a2] (q_push v [.inl s2]) S Q)) :
    z_T 266 16 [.inr (.inr 131), .inl a1, .inl a2] [.inl s0, .inr (.inr 131), .inl s2] (z_st m g) Q := y_wp_T (cd := q_c266) (cs := [4, 16, 17, 23]) (ng := []) (sy := []) rfl 300 16 _ _ _ _ h
theorem y_266_17 {m : z_M} {g : z_g} {Q : q_V → q_S → Prop} {a1 a2 s0 s1 : Int} (h :
    z_in a2 4 ∧
    z_C 215 [.inr (.inr 131), .inl (m 152 ((a2).toNat))] (z_st m g) (fun v S => z_T 266 23 [.inr (.inr 131), .inl a1, .inl a2] (q_push v [.inl s0, .inl s1]) S Q)) :
    z_T 266 17 [.inr (.inr 131), .inl a1, .inl a2] [.inl s0, .inl s1] (z_st m g) Q := y_wp_T (cd := q_c266) (cs := [4, 16, 17, 23]) (ng := []) (sy := []) rfl 300 17 _ _ _ _ h
theorem y_266_23 {m : z_M} {g : z_g} {Q : q_V → q_S → Prop} {a1 a2 s0 s1 s2 : Int} (h :
    z_ok2 s1 s0 ∧
    (¬ s1 = s0 →
      z_T 266 4 [.inr (.inr 131), .inl (q_bin 3 s2 (0 : Int)), .inl (a2 + (1 : Int))] [] (z_st m g) Q) ∧
    (s1 = s0 →
      z_T 266 4 [.inr (.inr 131), .inl (q_bin 3 s2 (1 : Int)), .inl (a2 + (1 : Int))] [] (z_st m g) Q)) :
    z_T 266 23 [.inr (.inr 131), .inl a1, .inl a2] [.inl s0, .inl s1, .inl s2] (z_st m g) Q := y_wp_T (cd := q_c266) (cs := [4, 16, 17, 23]) (ng := []) (sy := []) rfl 300 23 _ _ _ _ h
theorem y_267P : q_P 267 = (q_c267, 8) := rfl
theorem y_267 {m : z_M} {g : z_g} {Q : q_V → q_S → Prop} {a1 a2 a3 : Int} (h :
    z_C 209 [.inr (.inr 131), .inl a1] (z_st m g) (fun v S => z_T 267 3 [.inr (.inr 131), .inl a1, .inl a2, .inl a3, q_dead, q_dead, q_dead, q_dead] (q_push v []) S Q)) :
    z_C 267 [.inr (.inr 131), .inl a1, .inl a2, .inl a3] (z_st m g) Q := y_C_wp (cs := [3, 10, 15, 38, 43, 49, 51, 73, 80, 83, 93]) (ng := []) (sy := []) (n := 300) y_267P h
theorem y_267_3 {m : z_M} {g : z_g} {Q : q_V → q_S → Prop} {a1 a2 a3 s0 : Int} (h :
    z_ok s0 ∧
    (¬ s0 = (0 : Int) →
      z_C 188 [.inl a2, .inl (1 : Int), .inl (40 : Int)] (z_st m g) (fun v S => z_T 267 10 [.inr (.inr 131), .inl a1, .inl a2, .inl a3, q_dead, q_dead, q_dead, q_dead] (q_push v []) S Q)) ∧
    (s0 = (0 : Int) →
      Q (.inl (-1 : Int)) (z_st m g))) :
    z_T 267 3 [.inr (.inr 131), .inl a1, .inl a2, .inl a3, q_dead, q_dead, q_dead, q_dead] [.inl s0] (z_st m g) Q := y_wp_T (cd := q_c267) (cs := [3, 10, 15, 38, 43, 49, 51, 73, 80, 83, 93]) (ng := []) (sy := []) rfl 300 3 _ _ _ _ h
theorem y_267_10 {m : z_M} {g : z_g} {Q : q_V → q_S → Prop} {a1 a2 a3 s0 : Int} (h :
    z_ok s0 ∧
    (¬ s0 = (0 : Int) →
      z_T 267 15 [.inr (.inr 131), .inl a1, .inl a2, .inl a3, .inl (0 : Int), q_dead, q_dead, q_dead] [] (z_st m g) Q) ∧
    (s0 = (0 : Int) →
      Q (.inl (-2 : Int)) (z_st m g))) :
    z_T 267 10 [.inr (.inr 131), .inl a1, .inl a2, .inl a3, q_dead, q_dead, q_dead, q_dead] [.inl s0] (z_st m g) Q := y_wp_T (cd := q_c267) (cs := [3, 10, 15, 38, 43, 49, 51, 73, 80, 83, 93]) (ng := []) (sy := []) rfl 300 10 _ _ _ _ h
theorem y_267_15 {m : z_M} {g : z_g} {Q : q_V → q_S → Prop} {a1 a2 a3 a4 : Int} (h :
    z_ok2 a4 (13 : Int) ∧
    ((13 : Int) ≤ a4 →
      z_T 267 38 [.inr (.inr 131), .inl a1, .inl a2, .inl a3, .inl a3, .inl (0 : Int), .inl (0 : Int), q_dead] [] (z_st m g) Q) ∧
    (a4 < (13 : Int) →
      z_in (((13 : Int) * a1) + a4) 78 ∧
      z_in a4 13 ∧
      z_T 267 15 [.inr (.inr 131), .inl a1, .inl a2, .inl a3, .inl (a4 + (1 : Int)), q_dead, q_dead, q_dead] [] (z_st (q_upd m 153 ((a4).toNat) (m 137 ((((13 : Int) * a1) + a4).toNat))) g) Q)) :
    z_T 267 15 [.inr (.inr 131), .inl a1, .inl a2, .inl a3, .inl a4, q_dead, q_dead, q_dead] [] (z_st m g) Q := y_wp_T (cd := q_c267) (cs := [3, 10, 15, 38, 43, 49, 51, 73, 80, 83, 93]) (ng := []) (sy := []) rfl 300 15 _ _ _ _ h
theorem y_267_38 {m : z_M} {g : z_g} {Q : q_V → q_S → Prop} {a1 a2 a3 a4 a5 a6 : Int} {da7 : q_V} (h :
    z_ok2 a6 a2 ∧
    (a2 ≤ a6 →
      z_T 267 93 [.inr (.inr 131), .inl a1, .inl a2, .inl a3, .inl a4, .inl a5, .inl (0 : Int), da7] [] (z_st m g) Q) ∧
    (a6 < a2 →
      z_T 267 43 [.inr (.inr 131), .inl a1, .inl a2, .inl a3, .inl a4, .inl a5, .inl a6, .inl (0 : Int)] [] (z_st m g) Q)) :
    z_T 267 38 [.inr (.inr 131), .inl a1, .inl a2, .inl a3, .inl a4, .inl a5, .inl a6, da7] [] (z_st m g) Q := y_wp_T (cd := q_c267) (cs := [3, 10, 15, 38, 43, 49, 51, 73, 80, 83, 93]) (ng := []) (sy := []) rfl 300 38 _ _ _ _ h
theorem y_267_43 {m : z_M} {g : z_g} {Q : q_V → q_S → Prop} {a1 a2 a3 a4 a5 a6 a7 : Int} (h :
    z_ok2 a7 (13 : Int) ∧
    ((13 : Int) ≤ a7 →
      z_C 213 [.inr (.inr 131), .inl a1] (z_st m g) (fun v S => z_T 267 80 [.inr (.inr 131), .inl a1, .inl a2, .inl a3, .inl a4, .inl a5, .inl a6, .inl a7] (q_push v []) S Q)) ∧
    (a7 < (13 : Int) →
      z_C 210 [.inr (.inr 131), .inl a1] (z_st m g) (fun v S => z_T 267 49 [.inr (.inr 131), .inl a1, .inl a2, .inl a3, .inl a4, .inl a5, .inl a6, .inl a7] (q_push v []) S Q))) :
    z_T 267 43 [.inr (.inr 131), .inl a1, .inl a2, .inl a3, .inl a4, .inl a5, .inl a6, .inl a7] [] (z_st m g) Q := y_wp_T (cd := q_c267) (cs := [3, 10, 15, 38, 43, 49, 51, 73, 80, 83, 93]) (ng := []) (sy := []) rfl 300 43 _ _ _ _ h
theorem y_267_49 {m : z_M} {g : z_g} {Q : q_V → q_S → Prop} {a1 a2 a3 a4 a5 a6 a7 s0 : Int} (h :
    z_C 204 [.inl s0, .inl a7] (z_st m g) (fun v S => z_T 267 51 [.inr (.inr 131), .inl a1, .inl a2, .inl a3, .inl a4, .inl a5, .inl a6, .inl a7] (q_push v []) S Q)) :
    z_T 267 49 [.inr (.inr 131), .inl a1, .inl a2, .inl a3, .inl a4, .inl a5, .inl a6, .inl a7] [.inl s0] (z_st m g) Q := y_wp_T (cd := q_c267) (cs := [3, 10, 15, 38, 43, 49, 51, 73, 80, 83, 93]) (ng := []) (sy := []) rfl 300 49 _ _ _ _ h
theorem y_267_51 {m : z_M} {g : z_g} {Q : q_V → q_S → Prop} {a1 a2 a3 a4 a5 a6 a7 s0 : Int} (h :
    z_ok s0 ∧
    (¬ s0 = (0 : Int) →
      z_dv (q_bin 3 ((a4 * (1103515245 : Int)) + (12345 : Int)) (2147483647 : Int)) (65536 : Int) ∧
      z_C 216 [.inr (.inr 131)] (z_st m g) (fun v S => z_T 267 73 [.inr (.inr 131), .inl a1, .inl a2, .inl a3, .inl ((a4 * (1103515245 : Int)) + (12345 : Int)), .inl a5, .inl a6, .inl a7] (q_push v [.inl ((q_bin 3 ((a4 * (1103515245 : Int)) + (12345 : Int)) (2147483647 : Int)) / (65536 : Int)), .inl (((13 : Int) * a1) + a7), .inr (.inr 137)]) S Q)) ∧
    (s0 = (0 : Int) →
      z_T 267 43 [.inr (.inr 131), .inl a1, .inl a2, .inl a3, .inl a4, .inl a5, .inl a6, .inl (a7 + (1 : Int))] [] (z_st m g) Q)) :
    z_T 267 51 [.inr (.inr 131), .inl a1, .inl a2, .inl a3, .inl a4, .inl a5, .inl a6, .inl a7] [.inl s0] (z_st m g) Q := y_wp_T (cd := q_c267) (cs := [3, 10, 15, 38, 43, 49, 51, 73, 80, 83, 93]) (ng := []) (sy := []) rfl 300 51 _ _ _ _ h
theorem y_267_73 {m : z_M} {g : z_g} {Q : q_V → q_S → Prop} {a1 a2 a3 a4 a5 a6 a7 s0 s1 s2 : Int} (h :
    z_dv s1 s0 ∧
    z_in s2 78 ∧
    z_T 267 43 [.inr (.inr 131), .inl a1, .inl a2, .inl a3, .inl a4, .inl a5, .inl a6, .inl (a7 + (1 : Int))] [] (z_st (q_upd m 137 ((s2).toNat) (s1 % s0)) g) Q) :
    z_T 267 73 [.inr (.inr 131), .inl a1, .inl a2, .inl a3, .inl a4, .inl a5, .inl a6, .inl a7] [.inl s0, .inl s1, .inl s2, .inr (.inr 137)] (z_st m g) Q := y_wp_T (cd := q_c267) (cs := [3, 10, 15, 38, 43, 49, 51, 73, 80, 83, 93]) (ng := []) (sy := []) rfl 300 73 _ _ _ _ h
theorem y_267_80 {m : z_M} {g : z_g} {Q : q_V → q_S → Prop} {a1 a2 a3 a4 a5 a6 a7 : Int} (h :
    z_C 260 [.inr (.inr 131)] (z_st m g) (fun v S => z_T 267 83 [.inr (.inr 131), .inl a1, .inl a2, .inl a3, .inl a4, .inl a5, .inl a6, .inl a7] (q_push v [.inl a5]) S Q)) :
    z_T 267 80 [.inr (.inr 131), .inl a1, .inl a2, .inl a3, .inl a4, .inl a5, .inl a6, .inl a7] [] (z_st m g) Q := y_wp_T (cd := q_c267) (cs := [3, 10, 15, 38, 43, 49, 51, 73, 80, 83, 93]) (ng := []) (sy := []) rfl 300 80 _ _ _ _ h
theorem y_267_83 {m : z_M} {g : z_g} {Q : q_V → q_S → Prop} {a1 a2 a3 a4 a5 a6 a7 s0 s1 : Int} (h :
    z_ok s0 ∧
    (s0 = (0 : Int) →
      z_T 267 38 [.inr (.inr 131), .inl a1, .inl a2, .inl a3, .inl a4, .inl (s1 + (0 : Int)), .inl (a6 + (1 : Int)), .inl a7] [] (z_st m g) Q) ∧
    (¬ s0 = (0 : Int) →
      z_T 267 38 [.inr (.inr 131), .inl a1, .inl a2, .inl a3, .inl a4, .inl (s1 + (1 : Int)), .inl (a6 + (1 : Int)), .inl a7] [] (z_st m g) Q)) :
    z_T 267 83 [.inr (.inr 131), .inl a1, .inl a2, .inl a3, .inl a4, .inl a5, .inl a6, .inl a7] [.inl s0, .inl s1] (z_st m g) Q := y_wp_T (cd := q_c267) (cs := [3, 10, 15, 38, 43, 49, 51, 73, 80, 83, 93]) (ng := []) (sy := []) rfl 300 83 _ _ _ _ h
theorem y_267_93 {m : z_M} {g : z_g} {Q : q_V → q_S → Prop} {a1 a2 a3 a4 a5 a6 : Int} {da7 : q_V} (h :
    z_ok2 a6 (13 : Int) ∧
    ((13 : Int) ≤ a6 →
      Q (.inl a5) (z_st m g)) ∧
    (a6 < (13 : Int) →
      z_in a6 13 ∧
      z_in (((13 : Int) * a1) + a6) 78 ∧
      z_T 267 93 [.inr (.inr 131), .inl a1, .inl a2, .inl a3, .inl a4, .inl a5, .inl (a6 + (1 : Int)), da7] [] (z_st (q_upd m 137 ((((13 : Int) * a1) + a6).toNat) (m 153 ((a6).toNat))) g) Q)) :
    z_T 267 93 [.inr (.inr 131), .inl a1, .inl a2, .inl a3, .inl a4, .inl a5, .inl a6, da7] [] (z_st m g) Q := y_wp_T (cd := q_c267) (cs := [3, 10, 15, 38, 43, 49, 51, 73, 80, 83, 93]) (ng := []) (sy := []) rfl 300 93 _ _ _ _ h
theorem y_268P : q_P 268 = (q_c268, 2) := rfl
theorem y_268 {m : z_M} {g : z_g} {Q : q_V → q_S → Prop} {a1 : Int} (h :
    z_C 188 [.inl a1, .inl (0 : Int), .inl (127 : Int)] (z_st m g) (fun v S => z_T 268 4 [.inr (.inr 131), .inl a1] (q_push v []) S Q)) :
    z_C 268 [.inr (.inr 131), .inl a1] (z_st m g) Q := y_C_wp (cs := [4]) (ng := []) (sy := []) (n := 300) y_268P h
theorem y_268_4 {m : z_M} {g : z_g} {Q : q_V → q_S → Prop} {a1 s0 : Int} (h :
    z_ok s0 ∧
    (¬ s0 = (0 : Int) →
      z_ok2 (m 131 33) (80 : Int) ∧
      (¬ (m 131 33) = (80 : Int) →
        z_in (m 131 33) 80 ∧
        Q (.inl ((m 131 33) + (1 : Int))) (z_st (q_upd (q_upd m 154 ((m 131 33).toNat) a1) 131 33 ((m 131 33) + (1 : Int))) g)) ∧
      ((m 131 33) = (80 : Int) →
        Q (.inl (-4 : Int)) (z_st m g))) ∧
    (s0 = (0 : Int) →
      Q (.inl (-2 : Int)) (z_st m g))) :
    z_T 268 4 [.inr (.inr 131), .inl a1] [.inl s0] (z_st m g) Q := y_wp_T (cd := q_c268) (cs := [4]) (ng := []) (sy := []) rfl 300 4 _ _ _ _ h
theorem y_269P : q_P 269 = (q_c269, 4) := rfl
theorem y_269 {m : z_M} {g : z_g} {Q : q_V → q_S → Prop} (h :
    z_C 270 [.inr (.inr 131)] (z_st m g) (fun v S => z_T 269 2 [.inr (.inr 131), q_dead, q_dead, q_dead] (q_push v []) S Q)) :
    z_C 269 [.inr (.inr 131)] (z_st m g) Q := y_C_wp (cs := [2, 17, 25]) (ng := []) (sy := []) (n := 300) y_269P h
theorem y_269_2 {m : z_M} {g : z_g} {Q : q_V → q_S → Prop} {s0 : Int} (h :
    z_ok s0 ∧
    (¬ s0 = (0 : Int) →
      z_T 269 17 [.inr (.inr 131), .inl s0, .inl (0 : Int), .inl (0 : Int)] [] (z_st (q_upd m 131 33 (0 : Int)) g) Q) ∧
    (s0 = (0 : Int) →
      Q (.inl ((-100 : Int) - (m 131 34))) (z_st (q_upd m 131 33 (0 : Int)) g))) :
    z_T 269 2 [.inr (.inr 131), q_dead, q_dead, q_dead] [.inl s0] (z_st m g) Q := y_wp_T (cd := q_c269) (cs := [2, 17, 25]) (ng := []) (sy := []) rfl 300 2 _ _ _ _ h
theorem y_269_17 {m : z_M} {g : z_g} {Q : q_V → q_S → Prop} {a1 a2 a3 : Int} (h :
    z_ok2 a3 (m 131 35) ∧
    ((m 131 35) ≤ a3 →
      Q (.inl a2) (z_st (q_upd m 131 41 (0 : Int)) g)) ∧
    (a3 < (m 131 35) →
      z_C 279 [.inr (.inr 131), .inl a3] (z_st m g) (fun v S => z_T 269 25 [.inr (.inr 131), .inl a1, .inl a2, .inl a3] (q_push v [.inl a2]) S Q))) :
    z_T 269 17 [.inr (.inr 131), .inl a1, .inl a2, .inl a3] [] (z_st m g) Q := y_wp_T (cd := q_c269) (cs := [2, 17, 25]) (ng := []) (sy := []) rfl 300 17 _ _ _ _ h
theorem y_269_25 {m : z_M} {g : z_g} {Q : q_V → q_S → Prop} {a1 a2 a3 s0 s1 : Int} (h :
    z_ok s0 ∧
    (s0 < (0 : Int) →
      z_T 269 17 [.inr (.inr 131), .inl a1, .inl (s1 + (0 : Int)), .inl (a3 + (1 : Int))] [] (z_st m g) Q) ∧
    ((0 : Int) ≤ s0 →
      z_T 269 17 [.inr (.inr 131), .inl a1, .inl (s1 + (1 : Int)), .inl (a3 + (1 : Int))] [] (z_st m g) Q)) :
    z_T 269 25 [.inr (.inr 131), .inl a1, .inl a2, .inl a3] [.inl s0, .inl s1] (z_st m g) Q := y_wp_T (cd := q_c269) (cs := [2, 17, 25]) (ng := []) (sy := []) rfl 300 25 _ _ _ _ h
theorem y_270P : q_P 270 = (q_c270, 2) := rfl
theorem y_270 {m : z_M} {g : z_g} {Q : q_V → q_S → Prop} (h :
    z_C 271 [.inr (.inr 131)] (z_st (q_upd (q_upd m 131 34 (0 : Int)) 131 35 (0 : Int)) g) (fun v S => z_T 270 8 [.inr (.inr 131), q_dead] (q_push v []) S Q)) :
    z_C 270 [.inr (.inr 131)] (z_st m g) Q := y_C_wp (cs := [8, 9, 17, 27]) (ng := []) (sy := []) (n := 300) y_270P h
theorem y_270_8 {m : z_M} {g : z_g} {Q : q_V → q_S → Prop} {s0 : Int} (h :
    z_T 270 9 [.inr (.inr 131), .inl s0] [] (z_st m g) Q) :
    z_T 270 8 [.inr (.inr 131), q_dead] [.inl s0] (z_st m g) Q := y_wp_T (cd := q_c270) (cs := [8, 9, 17, 27]) (ng := []) (sy := []) rfl 300 8 _ _ _ _ h
theorem y_270_9 {m : z_M} {g : z_g} {Q : q_V → q_S → Prop} {a1 : Int} (h :
    z_ok a1 ∧
    (a1 = (0 : Int) →
      z_ok a1 ∧
      (a1 = (0 : Int) →
        Q (.inl (0 : Int)) (z_st m g)) ∧
      (¬ a1 = (0 : Int) →
        z_ok2 (m 131 34) (m 131 33) ∧
        (¬ (m 131 34) = (m 131 33) →
          Q (.inl (0 : Int)) (z_st m g)) ∧
        ((m 131 34) = (m 131 33) →
          Q (.inl (1 : Int)) (z_st m g)))) ∧
    (¬ a1 = (0 : Int) →
      z_ok2 (m 131 35) (10 : Int) ∧
      ((10 : Int) ≤ (m 131 35) →
        z_ok a1 ∧
        (a1 = (0 : Int) →
          Q (.inl (0 : Int)) (z_st m g)) ∧
        (¬ a1 = (0 : Int) →
          z_ok2 (m 131 34) (m 131 33) ∧
          (¬ (m 131 34) = (m 131 33) →
            Q (.inl (0 : Int)) (z_st m g)) ∧
          ((m 131 34) = (m 131 33) →
            Q (.inl (1 : Int)) (z_st m g)))) ∧
      ((m 131 35) < (10 : Int) →
        z_C 272 [.inr (.inr 131)] (z_st m g) (fun v S => z_T 270 17 [.inr (.inr 131), .inl a1] (q_push v []) S Q)))) :
    z_T 270 9 [.inr (.inr 131), .inl a1] [] (z_st m g) Q := y_wp_T (cd := q_c270) (cs := [8, 9, 17, 27]) (ng := []) (sy := []) rfl 300 9 _ _ _ _ h
theorem y_270_17 {m : z_M} {g : z_g} {Q : q_V → q_S → Prop} {a1 s0 : Int} (h :
    z_ok2 s0 (59 : Int) ∧
    (¬ s0 = (59 : Int) →
      z_ok a1 ∧
      (a1 = (0 : Int) →
        Q (.inl (0 : Int)) (z_st m g)) ∧
      (¬ a1 = (0 : Int) →
        z_ok2 (m 131 34) (m 131 33) ∧
        (¬ (m 131 34) = (m 131 33) →
          Q (.inl (0 : Int)) (z_st m g)) ∧
        ((m 131 34) = (m 131 33) →
          Q (.inl (1 : Int)) (z_st m g)))) ∧
    (s0 = (59 : Int) →
      z_C 271 [.inr (.inr 131)] (z_st (q_upd m 131 34 ((m 131 34) + (1 : Int))) g) (fun v S => z_T 270 27 [.inr (.inr 131), .inl a1] (q_push v []) S Q))) :
    z_T 270 17 [.inr (.inr 131), .inl a1] [.inl s0] (z_st m g) Q := y_wp_T (cd := q_c270) (cs := [8, 9, 17, 27]) (ng := []) (sy := []) rfl 300 17 _ _ _ _ h
theorem y_270_27 {m : z_M} {g : z_g} {Q : q_V → q_S → Prop} {a1 s0 : Int} (h :
    z_T 270 9 [.inr (.inr 131), .inl s0] [] (z_st m g) Q) :
    z_T 270 27 [.inr (.inr 131), .inl a1] [.inl s0] (z_st m g) Q := y_wp_T (cd := q_c270) (cs := [8, 9, 17, 27]) (ng := []) (sy := []) rfl 300 27 _ _ _ _ h
theorem y_271P : q_P 271 = (q_c271, 3) := rfl
theorem y_271 {m : z_M} {g : z_g} {Q : q_V → q_S → Prop} (h :
    z_C 272 [.inr (.inr 131)] (z_st m g) (fun v S => z_T 271 2 [.inr (.inr 131), q_dead, q_dead] (q_push v []) S Q)) :
    z_C 271 [.inr (.inr 131)] (z_st m g) Q := y_C_wp (cs := [2, 34, 40, 49]) (ng := []) (sy := []) (n := 300) y_271P h
set_option maxRecDepth 20000 in
theorem y_271_2 {m : z_M} {g : z_g} {Q : q_V → q_S → Prop} {s0 : Int} (h :
    z_ok2 s0 (112 : Int) ∧
    (s0 = (112 : Int) →
      z_in (m 131 35) 10 ∧
      z_ok2 s0 (97 : Int) ∧
      (¬ s0 = (97 : Int) →
        z_ok2 s0 (110 : Int) ∧
        (¬ s0 = (110 : Int) →
          z_ok2 s0 (112 : Int) ∧
          (¬ s0 = (112 : Int) →
            z_C 278 [.inr (.inr 131), .inl (3 : Int)] (z_st (q_upd (q_upd m 131 34 ((m 131 34) + (1 : Int))) 155 ((m 131 35).toNat) s0) g) (fun v S => z_T 271 49 [.inr (.inr 131), .inl s0, q_dead] (q_push v []) S Q)) ∧
          (s0 = (112 : Int) →
            z_C 278 [.inr (.inr 131), .inl (1 : Int)] (z_st (q_upd (q_upd m 131 34 ((m 131 34) + (1 : Int))) 155 ((m 131 35).toNat) s0) g) (fun v S => z_T 271 49 [.inr (.inr 131), .inl s0, q_dead] (q_push v []) S Q))) ∧
        (s0 = (110 : Int) →
          z_C 277 [.inr (.inr 131)] (z_st (q_upd (q_upd m 131 34 ((m 131 34) + (1 : Int))) 155 ((m 131 35).toNat) s0) g) (fun v S => z_T 271 40 [.inr (.inr 131), .inl s0, q_dead] (q_push v []) S Q))) ∧
      (s0 = (97 : Int) →
        z_C 273 [.inr (.inr 131)] (z_st (q_upd (q_upd m 131 34 ((m 131 34) + (1 : Int))) 155 ((m 131 35).toNat) s0) g) (fun v S => z_T 271 34 [.inr (.inr 131), .inl s0, q_dead] (q_push v []) S Q))) ∧
    (¬ s0 = (112 : Int) →
      z_ok2 s0 (97 : Int) ∧
      (s0 = (97 : Int) →
        z_in (m 131 35) 10 ∧
        z_ok2 s0 (97 : Int) ∧
        (¬ s0 = (97 : Int) →
          z_ok2 s0 (110 : Int) ∧
          (¬ s0 = (110 : Int) →
            z_ok2 s0 (112 : Int) ∧
            (¬ s0 = (112 : Int) →
              z_C 278 [.inr (.inr 131), .inl (3 : Int)] (z_st (q_upd (q_upd m 131 34 ((m 131 34) + (1 : Int))) 155 ((m 131 35).toNat) s0) g) (fun v S => z_T 271 49 [.inr (.inr 131), .inl s0, q_dead] (q_push v []) S Q)) ∧
            (s0 = (112 : Int) →
              z_C 278 [.inr (.inr 131), .inl (1 : Int)] (z_st (q_upd (q_upd m 131 34 ((m 131 34) + (1 : Int))) 155 ((m 131 35).toNat) s0) g) (fun v S => z_T 271 49 [.inr (.inr 131), .inl s0, q_dead] (q_push v []) S Q))) ∧
          (s0 = (110 : Int) →
            z_C 277 [.inr (.inr 131)] (z_st (q_upd (q_upd m 131 34 ((m 131 34) + (1 : Int))) 155 ((m 131 35).toNat) s0) g) (fun v S => z_T 271 40 [.inr (.inr 131), .inl s0, q_dead] (q_push v []) S Q))) ∧
        (s0 = (97 : Int) →
          z_C 273 [.inr (.inr 131)] (z_st (q_upd (q_upd m 131 34 ((m 131 34) + (1 : Int))) 155 ((m 131 35).toNat) s0) g) (fun v S => z_T 271 34 [.inr (.inr 131), .inl s0, q_dead] (q_push v []) S Q))) ∧
      (¬ s0 = (97 : Int) →
        z_ok2 s0 (115 : Int) ∧
        (s0 = (115 : Int) →
          z_in (m 131 35) 10 ∧
          z_ok2 s0 (97 : Int) ∧
          (¬ s0 = (97 : Int) →
            z_ok2 s0 (110 : Int) ∧
            (¬ s0 = (110 : Int) →
              z_ok2 s0 (112 : Int) ∧
              (¬ s0 = (112 : Int) →
                z_C 278 [.inr (.inr 131), .inl (3 : Int)] (z_st (q_upd (q_upd m 131 34 ((m 131 34) + (1 : Int))) 155 ((m 131 35).toNat) s0) g) (fun v S => z_T 271 49 [.inr (.inr 131), .inl s0, q_dead] (q_push v []) S Q)) ∧
              (s0 = (112 : Int) →
                z_C 278 [.inr (.inr 131), .inl (1 : Int)] (z_st (q_upd (q_upd m 131 34 ((m 131 34) + (1 : Int))) 155 ((m 131 35).toNat) s0) g) (fun v S => z_T 271 49 [.inr (.inr 131), .inl s0, q_dead] (q_push v []) S Q))) ∧
            (s0 = (110 : Int) →
              z_C 277 [.inr (.inr 131)] (z_st (q_upd (q_upd m 131 34 ((m 131 34) + (1 : Int))) 155 ((m 131 35).toNat) s0) g) (fun v S => z_T 271 40 [.inr (.inr 131), .inl s0, q_dead] (q_push v []) S Q))) ∧
          (s0 = (97 : Int) →
            z_C 273 [.inr (.inr 131)] (z_st (q_upd (q_upd m 131 34 ((m 131 34) + (1 : Int))) 155 ((m 131 35).toNat) s0) g) (fun v S => z_T 271 34 [.inr (.inr 131), .inl s0, q_dead] (q_push v []) S Q))) ∧
        (¬ s0 = (115 : Int) →
          z_ok2 s0 (110 : Int) ∧
          (s0 = (110 : Int) →
            z_in (m 131 35) 10 ∧
            z_ok2 s0 (97 : Int) ∧
            (¬ s0 = (97 : Int) →
              z_ok2 s0 (110 : Int) ∧
              (¬ s0 = (110 : Int) →
                z_ok2 s0 (112 : Int) ∧
                (¬ s0 = (112 : Int) →
                  z_C 278 [.inr (.inr 131), .inl (3 : Int)] (z_st (q_upd (q_upd m 131 34 ((m 131 34) + (1 : Int))) 155 ((m 131 35).toNat) s0) g) (fun v S => z_T 271 49 [.inr (.inr 131), .inl s0, q_dead] (q_push v []) S Q)) ∧
                (s0 = (112 : Int) →
                  z_C 278 [.inr (.inr 131), .inl (1 : Int)] (z_st (q_upd (q_upd m 131 34 ((m 131 34) + (1 : Int))) 155 ((m 131 35).toNat) s0) g) (fun v S => z_T 271 49 [.inr (.inr 131), .inl s0, q_dead] (q_push v []) S Q))) ∧
              (s0 = (110 : Int) →
                z_C 277 [.inr (.inr 131)] (z_st (q_upd (q_upd m 131 34 ((m 131 34) + (1 : Int))) 155 ((m 131 35).toNat) s0) g) (fun v S => z_T 271 40 [.inr (.inr 131), .inl s0, q_dead] (q_push v []) S Q))) ∧
            (s0 = (97 : Int) →
              z_C 273 [.inr (.inr 131)] (z_st (q_upd (q_upd m 131 34 ((m 131 34) + (1 : Int))) 155 ((m 131 35).toNat) s0) g) (fun v S => z_T 271 34 [.inr (.inr 131), .inl s0, q_dead] (q_push v []) S Q))) ∧
          (¬ s0 = (110 : Int) →
            Q (.inl (0 : Int)) (z_st m g)))))) :
    z_T 271 2 [.inr (.inr 131), q_dead, q_dead] [.inl s0] (z_st m g) Q := y_wp_T (cd := q_c271) (cs := [2, 34, 40, 49]) (ng := []) (sy := []) rfl 300 2 _ _ _ _ h
theorem y_271_34 {m : z_M} {g : z_g} {Q : q_V → q_S → Prop} {a1 s0 : Int} (h :
    z_T 271 49 [.inr (.inr 131), .inl a1, q_dead] [.inl s0] (z_st m g) Q) :
    z_T 271 34 [.inr (.inr 131), .inl a1, q_dead] [.inl s0] (z_st m g) Q := y_wp_T (cd := q_c271) (cs := [2, 34, 40, 49]) (ng := []) (sy := []) rfl 300 34 _ _ _ _ h
theorem y_271_40 {m : z_M} {g : z_g} {Q : q_V → q_S → Prop} {a1 s0 : Int} (h :
    z_T 271 49 [.inr (.inr 131), .inl a1, q_dead] [.inl s0] (z_st m g) Q) :
    z_T 271 40 [.inr (.inr 131), .inl a1, q_dead] [.inl s0] (z_st m g) Q := y_wp_T (cd := q_c271) (cs := [2, 34, 40, 49]) (ng := []) (sy := []) rfl 300 40 _ _ _ _ h
theorem y_271_49 {m : z_M} {g : z_g} {Q : q_V → q_S → Prop} {a1 s0 : Int} (h :
    z_ok s0 ∧
    (s0 = (0 : Int) →
      (s0 = 0 ∨ s0 = 1) ∧ Q (.inl s0) (z_st (q_upd m 131 35 ((m 131 35) + (0 : Int))) g)) ∧
    (¬ s0 = (0 : Int) →
      (s0 = 0 ∨ s0 = 1) ∧ Q (.inl s0) (z_st (q_upd m 131 35 ((m 131 35) + (1 : Int))) g))) :
    z_T 271 49 [.inr (.inr 131), .inl a1, q_dead] [.inl s0] (z_st m g) Q := y_wp_T (cd := q_c271) (cs := [2, 34, 40, 49]) (ng := [61]) (sy := []) rfl 300 49 _ _ _ _ h
theorem y_272P : q_P 272 = (q_c272, 1) := rfl
theorem y_272 {m : z_M} {g : z_g} {Q : q_V → q_S → Prop} (h :
    z_ok2 (m 131 34) (m 131 33) ∧
    ((m 131 33) ≤ (m 131 34) →
      Q (.inl (-1 : Int)) (z_st m g)) ∧
    ((m 131 34) < (m 131 33) →
      z_in (m 131 34) 80 ∧
      Q (.inl (m 154 ((m 131 34).toNat))) (z_st m g))) :
    z_C 272 [.inr (.inr 131)] (z_st m g) Q := y_C_wp (cs := []) (ng := []) (sy := []) (n := 300) y_272P h
theorem y_273P : q_P 273 = (q_c273, 3) := rfl
theorem y_273 {m : z_M} {g : z_g} {Q : q_V → q_S → Prop} (h :
    z_T 273 4 [.inr (.inr 131), .inl (0 : Int), .inl (0 : Int)] [] (z_st m g) Q) :
    z_C 273 [.inr (.inr 131)] (z_st m g) Q := y_C_wp (cs := [4, 9, 22, 53]) (ng := []) (sy := []) (n := 300) y_273P h
theorem y_273_4 {m : z_M} {g : z_g} {Q : q_V → q_S → Prop} {a1 a2 : Int} (h :
    z_ok2 a2 (6 : Int) ∧
    ((6 : Int) ≤ a2 →
      z_C 276 [.inr (.inr 131), .inl (0 : Int), .inl a1] (z_st m g) (fun v S => z_T 273 53 [.inr (.inr 131), .inl a1, .inl a2] (q_push v []) S Q)) ∧
    (a2 < (6 : Int) →
      z_C 274 [.inr (.inr 131)] (z_st m g) (fun v S => z_T 273 9 [.inr (.inr 131), .inl a1, .inl a2] (q_push v []) S Q))) :
    z_T 273 4 [.inr (.inr 131), .inl a1, .inl a2] [] (z_st m g) Q := y_wp_T (cd := q_c273) (cs := [4, 9, 22, 53]) (ng := []) (sy := []) rfl 300 4 _ _ _ _ h
theorem y_273_9 {m : z_M} {g : z_g} {Q : q_V → q_S → Prop} {a1 a2 s0 : Int} (h :
    z_ok s0 ∧
    (s0 < (0 : Int) →
      z_C 276 [.inr (.inr 131), .inl (0 : Int), .inl a1] (z_st m g) (fun v S => z_T 273 53 [.inr (.inr 131), .inl a1, .inl a2] (q_push v []) S Q)) ∧
    ((0 : Int) ≤ s0 →
      z_in ((m 131 34) - (1 : Int)) 80 ∧
      z_C 188 [.inl (m 154 (((m 131 34) - (1 : Int)).toNat)), .inl (97 : Int), .inl (99 : Int)] (z_st m g) (fun v S => z_T 273 22 [.inr (.inr 131), .inl a1, .inl a2] (q_push v [.inl (1 : Int), .inl a1]) S Q))) :
    z_T 273 9 [.inr (.inr 131), .inl a1, .inl a2] [.inl s0] (z_st m g) Q := y_wp_T (cd := q_c273) (cs := [4, 9, 22, 53]) (ng := []) (sy := []) rfl 300 9 _ _ _ _ h
theorem y_273_22 {m : z_M} {g : z_g} {Q : q_V → q_S → Prop} {a1 a2 s0 s1 s2 : Int} (h :
    z_ok s0 ∧
    (s0 = (0 : Int) →
      z_in ((m 131 34) - (1 : Int)) 80 ∧
      z_T 273 4 [.inr (.inr 131), .inl (q_bin 4 s2 (q_bin 6 s1 ((m 154 (((m 131 34) - (1 : Int)).toNat)) - (48 : Int)))), .inl (a2 + (1 : Int))] [] (z_st m g) Q) ∧
    (¬ s0 = (0 : Int) →
      z_in ((m 131 34) - (1 : Int)) 80 ∧
      z_T 273 4 [.inr (.inr 131), .inl (q_bin 4 s2 (q_bin 6 s1 (((m 154 (((m 131 34) - (1 : Int)).toNat)) - (97 : Int)) + (10 : Int)))), .inl (a2 + (1 : Int))] [] (z_st m g) Q)) :
    z_T 273 22 [.inr (.inr 131), .inl a1, .inl a2] [.inl s0, .inl s1, .inl s2] (z_st m g) Q := y_wp_T (cd := q_c273) (cs := [4, 9, 22, 53]) (ng := []) (sy := []) rfl 300 22 _ _ _ _ h
theorem y_273_53 {m : z_M} {g : z_g} {Q : q_V → q_S → Prop} {a1 a2 : Int} (h :
    z_ok2 a2 (2 : Int) ∧
    (a2 < (2 : Int) →
      Q (.inl (0 : Int)) (z_st m g)) ∧
    ((2 : Int) ≤ a2 →
      Q (.inl (1 : Int)) (z_st m g))) :
    z_T 273 53 [.inr (.inr 131), .inl a1, .inl a2] [] (z_st m g) Q := y_wp_T (cd := q_c273) (cs := [4, 9, 22, 53]) (ng := []) (sy := []) rfl 300 53 _ _ _ _ h
theorem y_274P : q_P 274 = (q_c274, 1) := rfl
theorem y_274 {m : z_M} {g : z_g} {Q : q_V → q_S → Prop} (h :
    z_C 272 [.inr (.inr 131)] (z_st m g) (fun v S => z_T 274 2 [.inr (.inr 131)] (q_push v []) S Q)) :
    z_C 274 [.inr (.inr 131)] (z_st m g) Q := y_C_wp (cs := [2, 5, 8]) (ng := []) (sy := []) (n := 300) y_274P h
theorem y_274_2 {m : z_M} {g : z_g} {Q : q_V → q_S → Prop} {s0 : Int} (h :
    z_C 188 [.inl s0, .inl (97 : Int), .inl (99 : Int)] (z_st m g) (fun v S => z_T 274 5 [.inr (.inr 131)] (q_push v []) S Q)) :
    z_T 274 2 [.inr (.inr 131)] [.inl s0] (z_st m g) Q := y_wp_T (cd := q_c274) (cs := [2, 5, 8]) (ng := []) (sy := []) rfl 300 2 _ _ _ _ h
theorem y_274_5 {m : z_M} {g : z_g} {Q : q_V → q_S → Prop} {s0 : Int} (h :
    z_ok s0 ∧
    (¬ s0 = (0 : Int) →
      z_in (((m 131 34) + (1 : Int)) - (1 : Int)) 80 ∧
      Q (.inl (((m 154 ((((m 131 34) + (1 : Int)) - (1 : Int)).toNat)) - (97 : Int)) + (10 : Int))) (z_st (q_upd m 131 34 ((m 131 34) + (1 : Int))) g)) ∧
    (s0 = (0 : Int) →
      z_C 275 [.inr (.inr 131)] (z_st m g) (fun v S => z_T 274 8 [.inr (.inr 131)] (q_push v []) S Q))) :
    z_T 274 5 [.inr (.inr 131)] [.inl s0] (z_st m g) Q := y_wp_T (cd := q_c274) (cs := [2, 5, 8]) (ng := []) (sy := []) rfl 300 5 _ _ _ _ h
theorem y_274_8 {m : z_M} {g : z_g} {Q : q_V → q_S → Prop} {s0 : Int} (h :
    Q (.inl s0) (z_st m g)) :
    z_T 274 8 [.inr (.inr 131)] [.inl s0] (z_st m g) Q := y_wp_T (cd := q_c274) (cs := [2, 5, 8]) (ng := []) (sy := []) rfl 300 8 _ _ _ _ h
theorem y_275P : q_P 275 = (q_c275, 1) := rfl
theorem y_275 {m : z_M} {g : z_g} {Q : q_V → q_S → Prop} (h :
    z_C 272 [.inr (.inr 131)] (z_st m g) (fun v S => z_T 275 2 [.inr (.inr 131)] (q_push v []) S Q)) :
    z_C 275 [.inr (.inr 131)] (z_st m g) Q := y_C_wp (cs := [2, 5]) (ng := []) (sy := []) (n := 300) y_275P h
theorem y_275_2 {m : z_M} {g : z_g} {Q : q_V → q_S → Prop} {s0 : Int} (h :
    z_C 188 [.inl s0, .inl (48 : Int), .inl (57 : Int)] (z_st m g) (fun v S => z_T 275 5 [.inr (.inr 131)] (q_push v []) S Q)) :
    z_T 275 2 [.inr (.inr 131)] [.inl s0] (z_st m g) Q := y_wp_T (cd := q_c275) (cs := [2, 5]) (ng := []) (sy := []) rfl 300 2 _ _ _ _ h
theorem y_275_5 {m : z_M} {g : z_g} {Q : q_V → q_S → Prop} {s0 : Int} (h :
    z_ok s0 ∧
    (¬ s0 = (0 : Int) →
      z_in (((m 131 34) + (1 : Int)) - (1 : Int)) 80 ∧
      Q (.inl ((m 154 ((((m 131 34) + (1 : Int)) - (1 : Int)).toNat)) - (48 : Int))) (z_st (q_upd m 131 34 ((m 131 34) + (1 : Int))) g)) ∧
    (s0 = (0 : Int) →
      Q (.inl (-1 : Int)) (z_st m g))) :
    z_T 275 5 [.inr (.inr 131)] [.inl s0] (z_st m g) Q := y_wp_T (cd := q_c275) (cs := [2, 5]) (ng := []) (sy := []) rfl 300 5 _ _ _ _ h
theorem y_276P : q_P 276 = (q_c276, 3) := rfl
theorem y_276 {m : z_M} {g : z_g} {Q : q_V → q_S → Prop} {a1 a2 : Int} (h :
    z_in (((4 : Int) * (m 131 35)) + a1) 40 ∧
    Q q_dead (z_st (q_upd m 156 ((((4 : Int) * (m 131 35)) + a1).toNat) a2) g)) :
    z_C 276 [.inr (.inr 131), .inl a1, .inl a2] (z_st m g) Q := y_C_wp (cs := []) (ng := []) (sy := []) (n := 300) y_276P h
theorem y_277P : q_P 277 = (q_c277, 5) := rfl
theorem y_277 {m : z_M} {g : z_g} {Q : q_V → q_S → Prop} (h :
    z_C 275 [.inr (.inr 131)] (z_st m g) (fun v S => z_T 277 2 [.inr (.inr 131), q_dead, q_dead, q_dead, q_dead] (q_push v []) S Q)) :
    z_C 277 [.inr (.inr 131)] (z_st m g) Q := y_C_wp (cs := [2, 9, 16, 23, 32, 36, 44]) (ng := []) (sy := []) (n := 300) y_277P h
theorem y_277_2 {m : z_M} {g : z_g} {Q : q_V → q_S → Prop} {s0 : Int} (h :
    z_ok s0 ∧
    ((0 : Int) ≤ s0 →
      z_C 274 [.inr (.inr 131)] (z_st m g) (fun v S => z_T 277 9 [.inr (.inr 131), .inl s0, q_dead, q_dead, q_dead] (q_push v []) S Q)) ∧
    (s0 < (0 : Int) →
      Q (.inl (0 : Int)) (z_st m g))) :
    z_T 277 2 [.inr (.inr 131), q_dead, q_dead, q_dead, q_dead] [.inl s0] (z_st m g) Q := y_wp_T (cd := q_c277) (cs := [2, 9, 16, 23, 32, 36, 44]) (ng := []) (sy := []) rfl 300 2 _ _ _ _ h
theorem y_277_9 {m : z_M} {g : z_g} {Q : q_V → q_S → Prop} {a1 s0 : Int} (h :
    z_ok s0 ∧
    ((0 : Int) ≤ s0 →
      z_C 275 [.inr (.inr 131)] (z_st m g) (fun v S => z_T 277 16 [.inr (.inr 131), .inl a1, .inl s0, q_dead, q_dead] (q_push v []) S Q)) ∧
    (s0 < (0 : Int) →
      Q (.inl (0 : Int)) (z_st m g))) :
    z_T 277 9 [.inr (.inr 131), .inl a1, q_dead, q_dead, q_dead] [.inl s0] (z_st m g) Q := y_wp_T (cd := q_c277) (cs := [2, 9, 16, 23, 32, 36, 44]) (ng := []) (sy := []) rfl 300 9 _ _ _ _ h
theorem y_277_16 {m : z_M} {g : z_g} {Q : q_V → q_S → Prop} {a1 a2 s0 : Int} (h :
    z_ok s0 ∧
    ((0 : Int) ≤ s0 →
      z_C 275 [.inr (.inr 131)] (z_st m g) (fun v S => z_T 277 23 [.inr (.inr 131), .inl a1, .inl a2, .inl s0, q_dead] (q_push v []) S Q)) ∧
    (s0 < (0 : Int) →
      Q (.inl (0 : Int)) (z_st m g))) :
    z_T 277 16 [.inr (.inr 131), .inl a1, .inl a2, q_dead, q_dead] [.inl s0] (z_st m g) Q := y_wp_T (cd := q_c277) (cs := [2, 9, 16, 23, 32, 36, 44]) (ng := []) (sy := []) rfl 300 16 _ _ _ _ h
theorem y_277_23 {m : z_M} {g : z_g} {Q : q_V → q_S → Prop} {a1 a2 a3 s0 : Int} (h :
    z_ok s0 ∧
    ((0 : Int) ≤ s0 →
      z_C 276 [.inr (.inr 131), .inl (0 : Int), .inl a1] (z_st m g) (fun v S => z_T 277 32 [.inr (.inr 131), .inl a1, .inl a2, .inl a3, .inl s0] (q_push v []) S Q)) ∧
    (s0 < (0 : Int) →
      Q (.inl (0 : Int)) (z_st m g))) :
    z_T 277 23 [.inr (.inr 131), .inl a1, .inl a2, .inl a3, q_dead] [.inl s0] (z_st m g) Q := y_wp_T (cd := q_c277) (cs := [2, 9, 16, 23, 32, 36, 44]) (ng := []) (sy := []) rfl 300 23 _ _ _ _ h
theorem y_277_32 {m : z_M} {g : z_g} {Q : q_V → q_S → Prop} {a1 a2 a3 a4 : Int} (h :
    z_C 276 [.inr (.inr 131), .inl (1 : Int), .inl a2] (z_st m g) (fun v S => z_T 277 36 [.inr (.inr 131), .inl a1, .inl a2, .inl a3, .inl a4] (q_push v []) S Q)) :
    z_T 277 32 [.inr (.inr 131), .inl a1, .inl a2, .inl a3, .inl a4] [] (z_st m g) Q := y_wp_T (cd := q_c277) (cs := [2, 9, 16, 23, 32, 36, 44]) (ng := []) (sy := []) rfl 300 32 _ _ _ _ h
theorem y_277_36 {m : z_M} {g : z_g} {Q : q_V → q_S → Prop} {a1 a2 a3 a4 : Int} (h :
    z_C 276 [.inr (.inr 131), .inl (2 : Int), .inl (((10 : Int) * a3) + a4)] (z_st m g) (fun v S => z_T 277 44 [.inr (.inr 131), .inl a1, .inl a2, .inl a3, .inl a4] (q_push v []) S Q)) :
    z_T 277 36 [.inr (.inr 131), .inl a1, .inl a2, .inl a3, .inl a4] [] (z_st m g) Q := y_wp_T (cd := q_c277) (cs := [2, 9, 16, 23, 32, 36, 44]) (ng := []) (sy := []) rfl 300 36 _ _ _ _ h
theorem y_277_44 {m : z_M} {g : z_g} {Q : q_V → q_S → Prop} {a1 a2 a3 a4 : Int} (h :
    Q (.inl (1 : Int)) (z_st m g)) :
    z_T 277 44 [.inr (.inr 131), .inl a1, .inl a2, .inl a3, .inl a4] [] (z_st m g) Q := y_wp_T (cd := q_c277) (cs := [2, 9, 16, 23, 32, 36, 44]) (ng := []) (sy := []) rfl 300 44 _ _ _ _ h
theorem y_278P : q_P 278 = (q_c278, 4) := rfl
theorem y_278 {m : z_M} {g : z_g} {Q : q_V → q_S → Prop} {a1 : Int} (h :
    z_T 278 2 [.inr (.inr 131), .inl a1, .inl (0 : Int), q_dead] [] (z_st m g) Q) :
    z_C 278 [.inr (.inr 131), .inl a1] (z_st m g) Q := y_C_wp (cs := [2, 7, 16]) (ng := []) (sy := []) (n := 300) y_278P h
theorem y_278_2 {m : z_M} {g : z_g} {Q : q_V → q_S → Prop} {a1 a2 : Int} {da3 : q_V} (h :
    z_ok2 a2 a1 ∧
    (a1 ≤ a2 →
      Q (.inl (1 : Int)) (z_st m g)) ∧
    (a2 < a1 →
      z_C 275 [.inr (.inr 131)] (z_st m g) (fun v S => z_T 278 7 [.inr (.inr 131), .inl a1, .inl a2, da3] (q_push v []) S Q))) :
    z_T 278 2 [.inr (.inr 131), .inl a1, .inl a2, da3] [] (z_st m g) Q := y_wp_T (cd := q_c278) (cs := [2, 7, 16]) (ng := []) (sy := []) rfl 300 2 _ _ _ _ h
theorem y_278_7 {m : z_M} {g : z_g} {Q : q_V → q_S → Prop} {a1 a2 s0 : Int} {da3 : q_V} (h :
    z_ok s0 ∧
    ((0 : Int) ≤ s0 →
      z_C 276 [.inr (.inr 131), .inl a2, .inl s0] (z_st m g) (fun v S => z_T 278 16 [.inr (.inr 131), .inl a1, .inl a2, .inl s0] (q_push v []) S Q)) ∧
    (s0 < (0 : Int) →
      Q (.inl (0 : Int)) (z_st m g))) :
    z_T 278 7 [.inr (.inr 131), .inl a1, .inl a2, da3] [.inl s0] (z_st m g) Q := y_wp_T (cd := q_c278) (cs := [2, 7, 16]) (ng := []) (sy := []) rfl 300 7 _ _ _ _ h
theorem y_278_16 {m : z_M} {g : z_g} {Q : q_V → q_S → Prop} {a1 a2 a3 : Int} (h :
    z_T 278 2 [.inr (.inr 131), .inl a1, .inl (a2 + (1 : Int)), .inl a3] [] (z_st m g) Q) :
    z_T 278 16 [.inr (.inr 131), .inl a1, .inl a2, .inl a3] [] (z_st m g) Q := y_wp_T (cd := q_c278) (cs := [2, 7, 16]) (ng := []) (sy := []) rfl 300 16 _ _ _ _ h
theorem y_279P : q_P 279 = (q_c279, 5) := rfl
set_option maxRecDepth 20000 in
theorem y_279 {m : z_M} {g : z_g} {Q : q_V → q_S → Prop} {a1 : Int} (h :
    z_in ((4 : Int) * a1) 40 ∧
    z_in (((4 : Int) * a1) + (1 : Int)) 40 ∧
    z_in (((4 : Int) * a1) + (2 : Int)) 40 ∧
    z_in a1 10 ∧
    z_ok2 (m 155 ((a1).toNat)) (112 : Int) ∧
    (¬ (m 155 ((a1).toNat)) = (112 : Int) →
      z_in a1 10 ∧
      z_ok2 (m 155 ((a1).toNat)) (97 : Int) ∧
      (¬ (m 155 ((a1).toNat)) = (97 : Int) →
        z_in a1 10 ∧
        z_ok2 (m 155 ((a1).toNat)) (115 : Int) ∧
        (¬ (m 155 ((a1).toNat)) = (115 : Int) →
          z_C 208 [.inr (.inr 131), .inl (m 156 (((4 : Int) * a1).toNat)), .inl (m 156 ((((4 : Int) * a1) + (1 : Int)).toNat)), .inl (m 156 ((((4 : Int) * a1) + (2 : Int)).toNat))] (z_st m g) (fun v S => z_T 279 62 [.inr (.inr 131), .inl a1, .inl (m 156 (((4 : Int) * a1).toNat)), .inl (m 156 ((((4 : Int) * a1) + (1 : Int)).toNat)), .inl (m 156 ((((4 : Int) * a1) + (2 : Int)).toNat))] (q_push v []) S Q)) ∧
        ((m 155 ((a1).toNat)) = (115 : Int) →
          z_C 206 [.inr (.inr 131), .inl (m 156 (((4 : Int) * a1).toNat)), .inl (m 156 ((((4 : Int) * a1) + (1 : Int)).toNat)), .inl (m 156 ((((4 : Int) * a1) + (2 : Int)).toNat))] (z_st m g) (fun v S => z_T 279 56 [.inr (.inr 131), .inl a1, .inl (m 156 (((4 : Int) * a1).toNat)), .inl (m 156 ((((4 : Int) * a1) + (1 : Int)).toNat)), .inl (m 156 ((((4 : Int) * a1) + (2 : Int)).toNat))] (q_push v []) S Q))) ∧
      ((m 155 ((a1).toNat)) = (97 : Int) →
        z_C 190 [.inr (.inr 131), .inl (m 156 (((4 : Int) * a1).toNat))] (z_st m g) (fun v S => z_T 279 44 [.inr (.inr 131), .inl a1, .inl (m 156 (((4 : Int) * a1).toNat)), .inl (m 156 ((((4 : Int) * a1) + (1 : Int)).toNat)), .inl (m 156 ((((4 : Int) * a1) + (2 : Int)).toNat))] (q_push v []) S Q))) ∧
    ((m 155 ((a1).toNat)) = (112 : Int) →
      z_C 187 [.inr (.inr 131), .inl (m 156 (((4 : Int) * a1).toNat))] (z_st m g) (fun v S => z_T 279 34 [.inr (.inr 131), .inl a1, .inl (m 156 (((4 : Int) * a1).toNat)), .inl (m 156 ((((4 : Int) * a1) + (1 : Int)).toNat)), .inl (m 156 ((((4 : Int) * a1) + (2 : Int)).toNat))] (q_push v []) S Q))) :
    z_C 279 [.inr (.inr 131), .inl a1] (z_st m g) Q := y_C_wp (cs := [34, 44, 56, 62]) (ng := []) (sy := []) (n := 300) y_279P h
set_option maxRecDepth 20000 in
theorem y_279_34 {m : z_M} {g : z_g} {Q : q_V → q_S → Prop} {a1 a2 a3 a4 s0 : Int} (h :
    z_T 279 62 [.inr (.inr 131), .inl a1, .inl a2, .inl a3, .inl a4] [.inl s0] (z_st m g) Q) :
    z_T 279 34 [.inr (.inr 131), .inl a1, .inl a2, .inl a3, .inl a4] [.inl s0] (z_st m g) Q := y_wp_T (cd := q_c279) (cs := [34, 44, 56, 62]) (ng := []) (sy := []) rfl 300 34 _ _ _ _ h
set_option maxRecDepth 20000 in
theorem y_279_44 {m : z_M} {g : z_g} {Q : q_V → q_S → Prop} {a1 a2 a3 a4 s0 : Int} (h :
    z_T 279 62 [.inr (.inr 131), .inl a1, .inl a2, .inl a3, .inl a4] [.inl s0] (z_st m g) Q) :
    z_T 279 44 [.inr (.inr 131), .inl a1, .inl a2, .inl a3, .inl a4] [.inl s0] (z_st m g) Q := y_wp_T (cd := q_c279) (cs := [34, 44, 56, 62]) (ng := []) (sy := []) rfl 300 44 _ _ _ _ h
set_option maxRecDepth 20000 in
theorem y_279_56 {m : z_M} {g : z_g} {Q : q_V → q_S → Prop} {a1 a2 a3 a4 s0 : Int} (h :
    z_T 279 62 [.inr (.inr 131), .inl a1, .inl a2, .inl a3, .inl a4] [.inl s0] (z_st m g) Q) :
    z_T 279 56 [.inr (.inr 131), .inl a1, .inl a2, .inl a3, .inl a4] [.inl s0] (z_st m g) Q := y_wp_T (cd := q_c279) (cs := [34, 44, 56, 62]) (ng := []) (sy := []) rfl 300 56 _ _ _ _ h
set_option maxRecDepth 20000 in
theorem y_279_62 {m : z_M} {g : z_g} {Q : q_V → q_S → Prop} {a1 a2 a3 a4 s0 : Int} (h :
    Q (.inl s0) (z_st m g)) :
    z_T 279 62 [.inr (.inr 131), .inl a1, .inl a2, .inl a3, .inl a4] [.inl s0] (z_st m g) Q := y_wp_T (cd := q_c279) (cs := [34, 44, 56, 62]) (ng := []) (sy := []) rfl 300 62 _ _ _ _ h
theorem y_280P : q_P 280 = (q_c280, 4) := rfl
theorem y_280 {m : z_M} {g : z_g} {Q : q_V → q_S → Prop} {a1 : Int} (h :
    z_C 209 [.inr (.inr 131), .inl a1] (z_st m g) (fun v S => z_T 280 3 [.inr (.inr 131), .inl a1, q_dead, q_dead] (q_push v []) S Q)) :
    z_C 280 [.inr (.inr 131), .inl a1] (z_st m g) Q := y_C_wp (cs := [3, 11, 17, 27, 30, 33, 36, 44]) (ng := []) (sy := []) (n := 300) y_280P h
theorem y_280_3 {m : z_M} {g : z_g} {Q : q_V → q_S → Prop} {a1 s0 : Int} (h :
    z_ok s0 ∧
    (¬ s0 = (0 : Int) →
      z_T 280 11 [.inr (.inr 131), .inl a1, .inl (12 : Int), q_dead] [] (z_st (q_upd m 131 37 (0 : Int)) g) Q) ∧
    (s0 = (0 : Int) →
      Q (.inl (-1 : Int)) (z_st m g))) :
    z_T 280 3 [.inr (.inr 131), .inl a1, q_dead, q_dead] [.inl s0] (z_st m g) Q := y_wp_T (cd := q_c280) (cs := [3, 11, 17, 27, 30, 33, 36, 44]) (ng := []) (sy := []) rfl 300 3 _ _ _ _ h
theorem y_280_11 {m : z_M} {g : z_g} {Q : q_V → q_S → Prop} {a1 a2 : Int} {da3 : q_V} (h :
    z_ok a2 ∧
    (a2 < (0 : Int) →
      z_ok (m 131 37) ∧
      (¬ (m 131 37) = (0 : Int) →
        z_T 280 44 [.inr (.inr 131), .inl a1, .inl a2, da3] [] (z_st m g) Q) ∧
      ((m 131 37) = (0 : Int) →
        z_C 281 [.inr (.inr 131), .inl (48 : Int)] (z_st m g) (fun v S => z_T 280 44 [.inr (.inr 131), .inl a1, .inl a2, da3] (q_push v []) S Q))) ∧
    ((0 : Int) ≤ a2 →
      z_C 214 [.inr (.inr 131), .inl a1, .inl a2] (z_st m g) (fun v S => z_T 280 17 [.inr (.inr 131), .inl a1, .inl a2, da3] (q_push v []) S Q))) :
    z_T 280 11 [.inr (.inr 131), .inl a1, .inl a2, da3] [] (z_st m g) Q := y_wp_T (cd := q_c280) (cs := [3, 11, 17, 27, 30, 33, 36, 44]) (ng := []) (sy := []) rfl 300 11 _ _ _ _ h
theorem y_280_17 {m : z_M} {g : z_g} {Q : q_V → q_S → Prop} {a1 a2 s0 : Int} {da3 : q_V} (h :
    z_ok s0 ∧
    (¬ s0 = (0 : Int) →
      z_ok (m 131 37) ∧
      ((m 131 37) ≤ (0 : Int) →
        z_T 280 27 [.inr (.inr 131), .inl a1, .inl a2, .inl s0] [] (z_st m g) Q) ∧
      ((0 : Int) < (m 131 37) →
        z_C 281 [.inr (.inr 131), .inl (43 : Int)] (z_st m g) (fun v S => z_T 280 27 [.inr (.inr 131), .inl a1, .inl a2, .inl s0] (q_push v []) S Q))) ∧
    (s0 = (0 : Int) →
      z_T 280 36 [.inr (.inr 131), .inl a1, .inl a2, .inl s0] [] (z_st m g) Q)) :
    z_T 280 17 [.inr (.inr 131), .inl a1, .inl a2, da3] [.inl s0] (z_st m g) Q := y_wp_T (cd := q_c280) (cs := [3, 11, 17, 27, 30, 33, 36, 44]) (ng := []) (sy := []) rfl 300 17 _ _ _ _ h
theorem y_280_27 {m : z_M} {g : z_g} {Q : q_V → q_S → Prop} {a1 a2 a3 : Int} (h :
    z_C 282 [.inr (.inr 131), .inl a3] (z_st m g) (fun v S => z_T 280 30 [.inr (.inr 131), .inl a1, .inl a2, .inl a3] (q_push v []) S Q)) :
    z_T 280 27 [.inr (.inr 131), .inl a1, .inl a2, .inl a3] [] (z_st m g) Q := y_wp_T (cd := q_c280) (cs := [3, 11, 17, 27, 30, 33, 36, 44]) (ng := []) (sy := []) rfl 300 27 _ _ _ _ h
theorem y_280_30 {m : z_M} {g : z_g} {Q : q_V → q_S → Prop} {a1 a2 a3 : Int} (h :
    z_C 281 [.inr (.inr 131), .inl (120 : Int)] (z_st m g) (fun v S => z_T 280 33 [.inr (.inr 131), .inl a1, .inl a2, .inl a3] (q_push v []) S Q)) :
    z_T 280 30 [.inr (.inr 131), .inl a1, .inl a2, .inl a3] [] (z_st m g) Q := y_wp_T (cd := q_c280) (cs := [3, 11, 17, 27, 30, 33, 36, 44]) (ng := []) (sy := []) rfl 300 30 _ _ _ _ h
theorem y_280_33 {m : z_M} {g : z_g} {Q : q_V → q_S → Prop} {a1 a2 a3 : Int} (h :
    z_C 282 [.inr (.inr 131), .inl a2] (z_st m g) (fun v S => z_T 280 36 [.inr (.inr 131), .inl a1, .inl a2, .inl a3] (q_push v []) S Q)) :
    z_T 280 33 [.inr (.inr 131), .inl a1, .inl a2, .inl a3] [] (z_st m g) Q := y_wp_T (cd := q_c280) (cs := [3, 11, 17, 27, 30, 33, 36, 44]) (ng := []) (sy := []) rfl 300 33 _ _ _ _ h
theorem y_280_36 {m : z_M} {g : z_g} {Q : q_V → q_S → Prop} {a1 a2 a3 : Int} (h :
    z_T 280 11 [.inr (.inr 131), .inl a1, .inl (a2 + (-1 : Int)), .inl a3] [] (z_st m g) Q) :
    z_T 280 36 [.inr (.inr 131), .inl a1, .inl a2, .inl a3] [] (z_st m g) Q := y_wp_T (cd := q_c280) (cs := [3, 11, 17, 27, 30, 33, 36, 44]) (ng := []) (sy := []) rfl 300 36 _ _ _ _ h
theorem y_280_44 {m : z_M} {g : z_g} {Q : q_V → q_S → Prop} {a1 a2 : Int} {da3 : q_V} (h :
    Q (.inl (m 131 37)) (z_st m g)) :
    z_T 280 44 [.inr (.inr 131), .inl a1, .inl a2, da3] [] (z_st m g) Q := y_wp_T (cd := q_c280) (cs := [3, 11, 17, 27, 30, 33, 36, 44]) (ng := []) (sy := []) rfl 300 44 _ _ _ _ h
theorem y_281P : q_P 281 = (q_c281, 2) := rfl
theorem y_281 {m : z_M} {g : z_g} {Q : q_V → q_S → Prop} {a1 : Int} (h :
    z_in (m 131 37) 40 ∧
    Q q_dead (z_st (q_upd (q_upd m 157 ((m 131 37).toNat) a1) 131 37 ((m 131 37) + (1 : Int))) g)) :
    z_C 281 [.inr (.inr 131), .inl a1] (z_st m g) Q := y_C_wp (cs := []) (ng := []) (sy := []) (n := 300) y_281P h
theorem y_282P : q_P 282 = (q_c282, 2) := rfl
theorem y_282 {m : z_M} {g : z_g} {Q : q_V → q_S → Prop} {a1 : Int} (h :
    z_ok2 a1 (9 : Int) ∧
    (a1 ≤ (9 : Int) →
      z_T 282 10 [.inr (.inr 131), .inl a1] [] (z_st m g) Q) ∧
    ((9 : Int) < a1 →
      z_dv a1 (10 : Int) ∧
      z_C 281 [.inr (.inr 131), .inl ((48 : Int) + (a1 / (10 : Int)))] (z_st m g) (fun v S => z_T 282 10 [.inr (.inr 131), .inl a1] (q_push v []) S Q))) :
    z_C 282 [.inr (.inr 131), .inl a1] (z_st m g) Q := y_C_wp (cs := [10, 17]) (ng := []) (sy := []) (n := 300) y_282P h
theorem y_282_10 {m : z_M} {g : z_g} {Q : q_V → q_S → Prop} {a1 : Int} (h :
    z_dv a1 (10 : Int) ∧
    z_C 281 [.inr (.inr 131), .inl ((48 : Int) + (a1 % (10 : Int)))] (z_st m g) (fun v S => z_T 282 17 [.inr (.inr 131), .inl a1] (q_push v []) S Q)) :
    z_T 282 10 [.inr (.inr 131), .inl a1] [] (z_st m g) Q := y_wp_T (cd := q_c282) (cs := [10, 17]) (ng := []) (sy := []) rfl 300 10 _ _ _ _ h
theorem y_282_17 {m : z_M} {g : z_g} {Q : q_V → q_S → Prop} {a1 : Int} (h :
    Q q_dead (z_st m g)) :
    z_T 282 17 [.inr (.inr 131), .inl a1] [] (z_st m g) Q := y_wp_T (cd := q_c282) (cs := [10, 17]) (ng := []) (sy := []) rfl 300 17 _ _ _ _ h
theorem y_283P : q_P 283 = (q_c283, 2) := rfl
theorem y_283 {m : z_M} {g : z_g} {Q : q_V → q_S → Prop} {a1 : Int} (h :
    z_C 188 [.inl a1, .inl (0 : Int), .inl ((m 131 37) - (1 : Int))] (z_st m g) (fun v S => z_T 283 7 [.inr (.inr 131), .inl a1] (q_push v []) S Q)) :
    z_C 283 [.inr (.inr 131), .inl a1] (z_st m g) Q := y_C_wp (cs := [7]) (ng := []) (sy := []) (n := 300) y_283P h
theorem y_283_7 {m : z_M} {g : z_g} {Q : q_V → q_S → Prop} {a1 s0 : Int} (h :
    z_ok s0 ∧
    (s0 = (0 : Int) →
      Q (.inl (-1 : Int)) (z_st m g)) ∧
    (¬ s0 = (0 : Int) →
      z_in a1 40 ∧
      Q (.inl (m 157 ((a1).toNat))) (z_st m g))) :
    z_T 283 7 [.inr (.inr 131), .inl a1] [.inl s0] (z_st m g) Q := y_wp_T (cd := q_c283) (cs := [7]) (ng := []) (sy := []) rfl 300 7 _ _ _ _ h
theorem y_284P : q_P 284 = (q_c284, 2) := rfl
set_option maxRecDepth 20000 in
theorem y_284 {m : z_M} {g : z_g} {Q : q_V → q_S → Prop} (h :
    z_ok (m 131 41) ∧
    (¬ (m 131 41) = (0 : Int) →
      z_in ((m 131 41) - (1 : Int)) 8 ∧
      z_in ((m 131 41) - (1 : Int)) 8 ∧
      z_ok2 (m 158 (((m 131 41) - (1 : Int)).toNat)) (-1 : Int) ∧
      (¬ (m 158 (((m 131 41) - (1 : Int)).toNat)) = (-1 : Int) →
        z_in ((m 131 41) - (1 : Int)) 8 ∧
        z_ok2 (m 158 (((m 131 41) - (1 : Int)).toNat)) (-2 : Int) ∧
        (¬ (m 158 (((m 131 41) - (1 : Int)).toNat)) = (-2 : Int) →
          z_in ((m 131 41) - (1 : Int)) 8 ∧
          z_in (m 158 (((m 131 41) - (1 : Int)).toNat)) 78 ∧
          Q (.inl ((m 131 41) - (1 : Int))) (z_st (q_upd (q_upd m 131 41 ((m 131 41) - (1 : Int))) 137 ((m 158 (((m 131 41) - (1 : Int)).toNat)).toNat) (m 160 (((m 131 41) - (1 : Int)).toNat))) g)) ∧
        ((m 158 (((m 131 41) - (1 : Int)).toNat)) = (-2 : Int) →
          z_in ((m 131 41) - (1 : Int)) 8 ∧
          z_dv (m 160 (((m 131 41) - (1 : Int)).toNat)) (10 : Int) ∧
          z_in (m 159 (((m 131 41) - (1 : Int)).toNat)) 6 ∧
          z_in ((m 131 41) - (1 : Int)) 8 ∧
          z_dv (m 160 (((m 131 41) - (1 : Int)).toNat)) (10 : Int) ∧
          z_in (m 159 (((m 131 41) - (1 : Int)).toNat)) 6 ∧
          Q (.inl ((m 131 41) - (1 : Int))) (z_st (q_upd (q_upd (q_upd m 131 41 ((m 131 41) - (1 : Int))) 135 ((m 159 (((m 131 41) - (1 : Int)).toNat)).toNat) ((m 160 (((m 131 41) - (1 : Int)).toNat)) / (10 : Int))) 136 ((m 159 (((m 131 41) - (1 : Int)).toNat)).toNat) ((m 160 (((m 131 41) - (1 : Int)).toNat)) % (10 : Int))) g))) ∧
      ((m 158 (((m 131 41) - (1 : Int)).toNat)) = (-1 : Int) →
        Q (.inl ((m 131 41) - (1 : Int))) (z_st (q_upd (q_upd m 131 41 ((m 131 41) - (1 : Int))) 131 1 (m 160 (((m 131 41) - (1 : Int)).toNat))) g))) ∧
    ((m 131 41) = (0 : Int) →
      Q (.inl (-3 : Int)) (z_st m g))) :
    z_C 284 [.inr (.inr 131)] (z_st m g) Q := y_C_wp (cs := []) (ng := []) (sy := []) (n := 300) y_284P h
theorem y_286P : q_P 286 = (q_c286, 4) := rfl
theorem y_286 {m : z_M} {g : z_g} {Q : q_V → q_S → Prop} {a1 a2 : Int} (h :
    z_C 241 [.inl a1] (z_st m g) (fun v S => z_T 286 2 [.inr (.inr 131), .inl a1, .inl a2, q_dead] (q_push v []) S Q)) :
    z_C 286 [.inr (.inr 131), .inl a1, .inl a2] (z_st m g) Q := y_C_wp (cs := [2, 21]) (ng := []) (sy := []) (n := 300) y_286P h
theorem y_286_2 {m : z_M} {g : z_g} {Q : q_V → q_S → Prop} {a1 a2 s0 : Int} (h :
    z_ok s0 ∧
    (¬ s0 = (0 : Int) →
      z_ok2 a2 (20 : Int) ∧
      (a2 ≤ (20 : Int) →
        z_ok a2 ∧
        ((0 : Int) ≤ a2 →
          z_in a1 4 ∧
          z_T 286 21 [.inr (.inr 131), .inl a1, .inl a2, .inl (0 : Int)] [] (z_st (q_upd m 161 ((a1).toNat) a2) g) Q) ∧
        (a2 < (0 : Int) →
          Q (.inl (-14 : Int)) (z_st m g))) ∧
      ((20 : Int) < a2 →
        Q (.inl (-2 : Int)) (z_st m g))) ∧
    (s0 = (0 : Int) →
      Q (.inl (-1 : Int)) (z_st m g))) :
    z_T 286 2 [.inr (.inr 131), .inl a1, .inl a2, q_dead] [.inl s0] (z_st m g) Q := y_wp_T (cd := q_c286) (cs := [2, 21]) (ng := []) (sy := []) rfl 300 2 _ _ _ _ h
theorem y_286_21 {m : z_M} {g : z_g} {Q : q_V → q_S → Prop} {a1 a2 a3 : Int} (h :
    z_ok2 a3 (20 : Int) ∧
    ((20 : Int) ≤ a3 →
      Q (.inl (1 : Int)) (z_st m g)) ∧
    (a3 < (20 : Int) →
      z_in (((20 : Int) * a1) + a3) 80 ∧
      z_T 286 21 [.inr (.inr 131), .inl a1, .inl a2, .inl (a3 + (1 : Int))] [] (z_st (q_upd m 162 ((((20 : Int) * a1) + a3).toNat) (0 : Int)) g) Q)) :
    z_T 286 21 [.inr (.inr 131), .inl a1, .inl a2, .inl a3] [] (z_st m g) Q := y_wp_T (cd := q_c286) (cs := [2, 21]) (ng := []) (sy := []) rfl 300 21 _ _ _ _ h
theorem y_287P : q_P 287 = (q_c287, 5) := rfl
theorem y_287 {m : z_M} {g : z_g} {Q : q_V → q_S → Prop} {a1 a2 a3 : Int} (h :
    z_C 241 [.inl a1] (z_st m g) (fun v S => z_T 287 2 [.inr (.inr 131), .inl a1, .inl a2, .inr (.inl a3), q_dead] (q_push v []) S Q)) :
    z_C 287 [.inr (.inr 131), .inl a1, .inl a2, .inr (.inl a3)] (z_st m g) Q := y_C_wp (cs := [2, 21]) (ng := []) (sy := []) (n := 300) y_287P h
theorem y_287_2 {m : z_M} {g : z_g} {Q : q_V → q_S → Prop} {a1 a2 a3 s0 : Int} (h :
    z_ok s0 ∧
    (¬ s0 = (0 : Int) →
      z_in a1 4 ∧
      z_ok (m 161 ((a1).toNat)) ∧
      ((0 : Int) ≤ (m 161 ((a1).toNat)) →
        z_in a1 4 ∧
        z_C 188 [.inl a2, .inl (0 : Int), .inl ((m 161 ((a1).toNat)) - (1 : Int))] (z_st m g) (fun v S => z_T 287 21 [.inr (.inr 131), .inl a1, .inl a2, .inr (.inl a3), q_dead] (q_push v []) S Q)) ∧
      ((m 161 ((a1).toNat)) < (0 : Int) →
        Q (.inl (-11 : Int)) (z_st m g))) ∧
    (s0 = (0 : Int) →
      Q (.inl (-1 : Int)) (z_st m g))) :
    z_T 287 2 [.inr (.inr 131), .inl a1, .inl a2, .inr (.inl a3), q_dead] [.inl s0] (z_st m g) Q := y_wp_T (cd := q_c287) (cs := [2, 21]) (ng := []) (sy := []) rfl 300 2 _ _ _ _ h
theorem y_287_21 {m : z_M} {g : z_g} {Q : q_V → q_S → Prop} {a1 a2 a3 s0 : Int} (h :
    z_ok s0 ∧
    (¬ s0 = (0 : Int) →
      z_in (((20 : Int) * a1) + a2) 80 ∧
      Q (.inl (1 : Int)) (z_st (q_upd m 162 ((((20 : Int) * a1) + a2).toNat) a3) g)) ∧
    (s0 = (0 : Int) →
      Q (.inl (-13 : Int)) (z_st m g))) :
    z_T 287 21 [.inr (.inr 131), .inl a1, .inl a2, .inr (.inl a3), q_dead] [.inl s0] (z_st m g) Q := y_wp_T (cd := q_c287) (cs := [2, 21]) (ng := []) (sy := []) rfl 300 21 _ _ _ _ h
theorem y_288P : q_P 288 = (q_c288, 3) := rfl
theorem y_288 {m : z_M} {g : z_g} {Q : q_V → q_S → Prop} {a1 a2 : Int} (h :
    z_C 241 [.inl a1] (z_st m g) (fun v S => z_T 288 2 [.inr (.inr 131), .inl a1, .inl a2] (q_push v []) S Q)) :
    z_C 288 [.inr (.inr 131), .inl a1, .inl a2] (z_st m g) Q := y_C_wp (cs := [2, 12]) (ng := []) (sy := []) (n := 300) y_288P h
theorem y_288_2 {m : z_M} {g : z_g} {Q : q_V → q_S → Prop} {a1 a2 s0 : Int} (h :
    z_ok s0 ∧
    (s0 = (0 : Int) →
      Q (.inr (.inl (-9223372036854775808 : Int))) (z_st m g)) ∧
    (¬ s0 = (0 : Int) →
      z_in a1 4 ∧
      z_C 188 [.inl a2, .inl (0 : Int), .inl ((m 161 ((a1).toNat)) - (1 : Int))] (z_st m g) (fun v S => z_T 288 12 [.inr (.inr 131), .inl a1, .inl a2] (q_push v []) S Q))) :
    z_T 288 2 [.inr (.inr 131), .inl a1, .inl a2] [.inl s0] (z_st m g) Q := y_wp_T (cd := q_c288) (cs := [2, 12]) (ng := []) (sy := []) rfl 300 2 _ _ _ _ h
theorem y_288_12 {m : z_M} {g : z_g} {Q : q_V → q_S → Prop} {a1 a2 s0 : Int} (h :
    z_ok s0 ∧
    (s0 = (0 : Int) →
      Q (.inr (.inl (-9223372036854775808 : Int))) (z_st m g)) ∧
    (¬ s0 = (0 : Int) →
      z_in (((20 : Int) * a1) + a2) 80 ∧
      Q (.inr (.inl (m 162 ((((20 : Int) * a1) + a2).toNat)))) (z_st m g))) :
    z_T 288 12 [.inr (.inr 131), .inl a1, .inl a2] [.inl s0] (z_st m g) Q := y_wp_T (cd := q_c288) (cs := [2, 12]) (ng := []) (sy := []) rfl 300 12 _ _ _ _ h
theorem y_289P : q_P 289 = (q_c289, 7) := rfl
theorem y_289 {m : z_M} {g : z_g} {Q : q_V → q_S → Prop} {a1 a2 a3 a4 a5 : Int} (h :
    z_C 241 [.inl a1] (z_st m g) (fun v S => z_T 289 2 [.inr (.inr 131), .inl a1, .inl a2, .inl a3, .inl a4, .inl a5, q_dead] (q_push v []) S Q)) :
    z_C 289 [.inr (.inr 131), .inl a1, .inl a2, .inl a3, .inl a4, .inl a5] (z_st m g) Q := y_C_wp (cs := [2, 5, 54, 75]) (ng := []) (sy := []) (n := 300) y_289P h
theorem y_289_2 {m : z_M} {g : z_g} {Q : q_V → q_S → Prop} {a1 a2 a3 a4 a5 s0 : Int} (h :
    z_ok s0 ∧
    (s0 = (0 : Int) →
      Q (.inl (-1 : Int)) (z_st m g)) ∧
    (¬ s0 = (0 : Int) →
      z_C 241 [.inl a3] (z_st m g) (fun v S => z_T 289 5 [.inr (.inr 131), .inl a1, .inl a2, .inl a3, .inl a4, .inl a5, q_dead] (q_push v []) S Q))) :
    z_T 289 2 [.inr (.inr 131), .inl a1, .inl a2, .inl a3, .inl a4, .inl a5, q_dead] [.inl s0] (z_st m g) Q := y_wp_T (cd := q_c289) (cs := [2, 5, 54, 75]) (ng := []) (sy := []) rfl 300 2 _ _ _ _ h
theorem y_289_5 {m : z_M} {g : z_g} {Q : q_V → q_S → Prop} {a1 a2 a3 a4 a5 s0 : Int} (h :
    z_ok s0 ∧
    (¬ s0 = (0 : Int) →
      z_in a1 4 ∧
      z_ok (m 161 ((a1).toNat)) ∧
      ((m 161 ((a1).toNat)) < (0 : Int) →
        Q (.inl (-11 : Int)) (z_st m g)) ∧
      ((0 : Int) ≤ (m 161 ((a1).toNat)) →
        z_in a3 4 ∧
        z_ok (m 161 ((a3).toNat)) ∧
        ((0 : Int) ≤ (m 161 ((a3).toNat)) →
          z_ok a5 ∧
          (a5 < (0 : Int) →
            Q (.inl (-13 : Int)) (z_st m g)) ∧
          ((0 : Int) ≤ a5 →
            z_ok a2 ∧
            (a2 < (0 : Int) →
              Q (.inl (-13 : Int)) (z_st m g)) ∧
            ((0 : Int) ≤ a2 →
              z_ok a4 ∧
              (a4 < (0 : Int) →
                Q (.inl (-13 : Int)) (z_st m g)) ∧
              ((0 : Int) ≤ a4 →
                z_ok a2 ∧
                z_ok a5 ∧
                z_in a1 4 ∧
                z_ok (m 161 ((a1).toNat)) ∧
                z_okl2 (a2 + a5) (m 161 ((a1).toNat)) ∧
                z_ok (if a2 + a5 < m 161 ((a1).toNat) then (-1 : Int) else if a2 + a5 = m 161 ((a1).toNat) then 0 else 1) ∧
                ((0 : Int) < (if a2 + a5 < m 161 ((a1).toNat) then (-1 : Int) else if a2 + a5 = m 161 ((a1).toNat) then 0 else 1) →
                  Q (.inl (-13 : Int)) (z_st m g)) ∧
                ((if a2 + a5 < m 161 ((a1).toNat) then (-1 : Int) else if a2 + a5 = m 161 ((a1).toNat) then 0 else 1) ≤ (0 : Int) →
                  z_ok a4 ∧
                  z_ok a5 ∧
                  z_in a3 4 ∧
                  z_ok (m 161 ((a3).toNat)) ∧
                  z_okl2 (a4 + a5) (m 161 ((a3).toNat)) ∧
                  z_ok (if a4 + a5 < m 161 ((a3).toNat) then (-1 : Int) else if a4 + a5 = m 161 ((a3).toNat) then 0 else 1) ∧
                  ((if a4 + a5 < m 161 ((a3).toNat) then (-1 : Int) else if a4 + a5 = m 161 ((a3).toNat) then 0 else 1) ≤ (0 : Int) →
                    z_T 289 54 [.inr (.inr 131), .inl a1, .inl a2, .inl a3, .inl a4, .inl a5, .inl (0 : Int)] [] (z_st m g) Q) ∧
                  ((0 : Int) < (if a4 + a5 < m 161 ((a3).toNat) then (-1 : Int) else if a4 + a5 = m 161 ((a3).toNat) then 0 else 1) →
                    Q (.inl (-13 : Int)) (z_st m g))))))) ∧
        ((m 161 ((a3).toNat)) < (0 : Int) →
          Q (.inl (-11 : Int)) (z_st m g)))) ∧
    (s0 = (0 : Int) →
      Q (.inl (-1 : Int)) (z_st m g))) :
    z_T 289 5 [.inr (.inr 131), .inl a1, .inl a2, .inl a3, .inl a4, .inl a5, q_dead] [.inl s0] (z_st m g) Q := y_wp_T (cd := q_c289) (cs := [2, 5, 54, 75]) (ng := []) (sy := []) rfl 300 5 _ _ _ _ h
theorem y_289_54 {m : z_M} {g : z_g} {Q : q_V → q_S → Prop} {a1 a2 a3 a4 a5 a6 : Int} (h :
    z_ok2 a6 a5 ∧
    (a5 ≤ a6 →
      z_T 289 75 [.inr (.inr 131), .inl a1, .inl a2, .inl a3, .inl a4, .inl a5, .inl (0 : Int)] [] (z_st m g) Q) ∧
    (a6 < a5 →
      z_in ((((20 : Int) * a1) + a2) + a6) 80 ∧
      z_in a6 20 ∧
      z_T 289 54 [.inr (.inr 131), .inl a1, .inl a2, .inl a3, .inl a4, .inl a5, .inl (a6 + (1 : Int))] [] (z_st (q_upd m 163 ((a6).toNat) (m 162 (((((20 : Int) * a1) + a2) + a6).toNat))) g) Q)) :
    z_T 289 54 [.inr (.inr 131), .inl a1, .inl a2, .inl a3, .inl a4, .inl a5, .inl a6] [] (z_st m g) Q := y_wp_T (cd := q_c289) (cs := [2, 5, 54, 75]) (ng := []) (sy := []) rfl 300 54 _ _ _ _ h
theorem y_289_75 {m : z_M} {g : z_g} {Q : q_V → q_S → Prop} {a1 a2 a3 a4 a5 a6 : Int} (h :
    z_ok2 a6 a5 ∧
    (a5 ≤ a6 →
      Q (.inl a5) (z_st m g)) ∧
    (a6 < a5 →
      z_in a6 20 ∧
      z_in ((((20 : Int) * a3) + a4) + a6) 80 ∧
      z_T 289 75 [.inr (.inr 131), .inl a1, .inl a2, .inl a3, .inl a4, .inl a5, .inl (a6 + (1 : Int))] [] (z_st (q_upd m 162 (((((20 : Int) * a3) + a4) + a6).toNat) (m 163 ((a6).toNat))) g) Q)) :
    z_T 289 75 [.inr (.inr 131), .inl a1, .inl a2, .inl a3, .inl a4, .inl a5, .inl a6] [] (z_st m g) Q := y_wp_T (cd := q_c289) (cs := [2, 5, 54, 75]) (ng := []) (sy := []) rfl 300 75 _ _ _ _ h
theorem y_290P : q_P 290 = (q_c290, 1) := rfl
theorem y_290 {m : z_M} {g : z_g} {Q : q_V → q_S → Prop} (h :
    z_C 291 [.inr (.inr 131), .inl (1 : Int)] (z_st m g) (fun v S => z_T 290 3 [.inr (.inr 131)] (q_push v []) S Q)) :
    z_C 290 [.inr (.inr 131)] (z_st m g) Q := y_C_wp (cs := [3]) (ng := []) (sy := []) (n := 300) y_290P h
theorem y_290_3 {m : z_M} {g : z_g} {Q : q_V → q_S → Prop} (h :
    (((1 : Int) = 1 → (1 : Int) = 0 ∨ (1 : Int) = 1) ∧ ((1 : Int) = 2 → -128 ≤ (1 : Int) ∧ (1 : Int) < 128)) ∧
    Q (.inl (m 131 8)) (z_st (q_upd m 131 47 (1 : Int)) g)) :
    z_T 290 3 [.inr (.inr 131)] [] (z_st m g) Q := y_wp_T (cd := q_c290) (cs := [3]) (ng := []) (sy := []) rfl 300 3 _ _ _ _ h
theorem y_291P : q_P 291 = (q_c291, 2) := rfl
theorem y_291 {m : z_M} {g : z_g} {Q : q_V → q_S → Prop} {a1 : Int} (h :
    (((1 : Int) = 1 → a1 = 0 ∨ a1 = 1) ∧ ((1 : Int) = 2 → -128 ≤ a1 ∧ a1 < 128)) ∧
    z_C 292 [.inr (.inr 131), .inl (m 131 1)] (z_st (q_upd (q_upd m 131 48 a1) 131 46 (0 : Int)) g) (fun v S => z_T 291 11 [.inr (.inr 131), .inl a1] (q_push v [.inr (.inr 131)]) S Q)) :
    z_C 291 [.inr (.inr 131), .inl a1] (z_st m g) Q := y_C_wp (cs := [11, 17, 23, 29, 35, 40, 45, 50, 55, 60, 65]) (ng := []) (sy := []) (n := 300) y_291P h
theorem y_291_11 {m : z_M} {g : z_g} {Q : q_V → q_S → Prop} {a1 s0 : Int} (h :
    z_C 292 [.inr (.inr 131), .inl (m 131 3)] (z_st (q_upd m 131 1 s0) g) (fun v S => z_T 291 17 [.inr (.inr 131), .inl a1] (q_push v [.inr (.inr 131)]) S Q)) :
    z_T 291 11 [.inr (.inr 131), .inl a1] [.inl s0, .inr (.inr 131)] (z_st m g) Q := y_wp_T (cd := q_c291) (cs := [11, 17, 23, 29, 35, 40, 45, 50, 55, 60, 65]) (ng := []) (sy := []) rfl 300 11 _ _ _ _ h
theorem y_291_17 {m : z_M} {g : z_g} {Q : q_V → q_S → Prop} {a1 s0 : Int} (h :
    z_C 292 [.inr (.inr 131), .inl (m 131 8)] (z_st (q_upd m 131 3 s0) g) (fun v S => z_T 291 23 [.inr (.inr 131), .inl a1] (q_push v [.inr (.inr 131)]) S Q)) :
    z_T 291 17 [.inr (.inr 131), .inl a1] [.inl s0, .inr (.inr 131)] (z_st m g) Q := y_wp_T (cd := q_c291) (cs := [11, 17, 23, 29, 35, 40, 45, 50, 55, 60, 65]) (ng := []) (sy := []) rfl 300 17 _ _ _ _ h
theorem y_291_23 {m : z_M} {g : z_g} {Q : q_V → q_S → Prop} {a1 s0 : Int} (h :
    z_C 292 [.inr (.inr 131), .inl (m 131 28)] (z_st (q_upd m 131 8 s0) g) (fun v S => z_T 291 29 [.inr (.inr 131), .inl a1] (q_push v [.inr (.inr 131)]) S Q)) :
    z_T 291 23 [.inr (.inr 131), .inl a1] [.inl s0, .inr (.inr 131)] (z_st m g) Q := y_wp_T (cd := q_c291) (cs := [11, 17, 23, 29, 35, 40, 45, 50, 55, 60, 65]) (ng := []) (sy := []) rfl 300 23 _ _ _ _ h
theorem y_291_29 {m : z_M} {g : z_g} {Q : q_V → q_S → Prop} {a1 s0 : Int} (h :
    z_C 293 [.inr (.inr 131), .inr (.inr 133), .inl (6 : Int)] (z_st (q_upd m 131 28 s0) g) (fun v S => z_T 291 35 [.inr (.inr 131), .inl a1] (q_push v []) S Q)) :
    z_T 291 29 [.inr (.inr 131), .inl a1] [.inl s0, .inr (.inr 131)] (z_st m g) Q := y_wp_T (cd := q_c291) (cs := [11, 17, 23, 29, 35, 40, 45, 50, 55, 60, 65]) (ng := []) (sy := []) rfl 300 29 _ _ _ _ h
theorem y_291_35 {m : z_M} {g : z_g} {Q : q_V → q_S → Prop} {a1 : Int} (h :
    z_C 293 [.inr (.inr 131), .inr (.inr 134), .inl (6 : Int)] (z_st m g) (fun v S => z_T 291 40 [.inr (.inr 131), .inl a1] (q_push v []) S Q)) :
    z_T 291 35 [.inr (.inr 131), .inl a1] [] (z_st m g) Q := y_wp_T (cd := q_c291) (cs := [11, 17, 23, 29, 35, 40, 45, 50, 55, 60, 65]) (ng := []) (sy := []) rfl 300 35 _ _ _ _ h
theorem y_291_40 {m : z_M} {g : z_g} {Q : q_V → q_S → Prop} {a1 : Int} (h :
    z_C 293 [.inr (.inr 131), .inr (.inr 135), .inl (6 : Int)] (z_st m g) (fun v S => z_T 291 45 [.inr (.inr 131), .inl a1] (q_push v []) S Q)) :
    z_T 291 40 [.inr (.inr 131), .inl a1] [] (z_st m g) Q := y_wp_T (cd := q_c291) (cs := [11, 17, 23, 29, 35, 40, 45, 50, 55, 60, 65]) (ng := []) (sy := []) rfl 300 40 _ _ _ _ h
theorem y_291_45 {m : z_M} {g : z_g} {Q : q_V → q_S → Prop} {a1 : Int} (h :
    z_C 293 [.inr (.inr 131), .inr (.inr 136), .inl (6 : Int)] (z_st m g) (fun v S => z_T 291 50 [.inr (.inr 131), .inl a1] (q_push v []) S Q)) :
    z_T 291 45 [.inr (.inr 131), .inl a1] [] (z_st m g) Q := y_wp_T (cd := q_c291) (cs := [11, 17, 23, 29, 35, 40, 45, 50, 55, 60, 65]) (ng := []) (sy := []) rfl 300 45 _ _ _ _ h
theorem y_291_50 {m : z_M} {g : z_g} {Q : q_V → q_S → Prop} {a1 : Int} (h :
    z_C 293 [.inr (.inr 131), .inr (.inr 137), .inl (78 : Int)] (z_st m g) (fun v S => z_T 291 55 [.inr (.inr 131), .inl a1] (q_push v []) S Q)) :
    z_T 291 50 [.inr (.inr 131), .inl a1] [] (z_st m g) Q := y_wp_T (cd := q_c291) (cs := [11, 17, 23, 29, 35, 40, 45, 50, 55, 60, 65]) (ng := []) (sy := []) rfl 300 50 _ _ _ _ h
theorem y_291_55 {m : z_M} {g : z_g} {Q : q_V → q_S → Prop} {a1 : Int} (h :
    z_C 293 [.inr (.inr 131), .inr (.inr 151), .inl (4 : Int)] (z_st m g) (fun v S => z_T 291 60 [.inr (.inr 131), .inl a1] (q_push v []) S Q)) :
    z_T 291 55 [.inr (.inr 131), .inl a1] [] (z_st m g) Q := y_wp_T (cd := q_c291) (cs := [11, 17, 23, 29, 35, 40, 45, 50, 55, 60, 65]) (ng := []) (sy := []) rfl 300 55 _ _ _ _ h
theorem y_291_60 {m : z_M} {g : z_g} {Q : q_V → q_S → Prop} {a1 : Int} (h :
    z_C 293 [.inr (.inr 131), .inr (.inr 152), .inl (4 : Int)] (z_st m g) (fun v S => z_T 291 65 [.inr (.inr 131), .inl a1] (q_push v []) S Q)) :
    z_T 291 60 [.inr (.inr 131), .inl a1] [] (z_st m g) Q := y_wp_T (cd := q_c291) (cs := [11, 17, 23, 29, 35, 40, 45, 50, 55, 60, 65]) (ng := []) (sy := []) rfl 300 60 _ _ _ _ h
theorem y_291_65 {m : z_M} {g : z_g} {Q : q_V → q_S → Prop} {a1 : Int} (h :
    Q q_dead (z_st m g)) :
    z_T 291 65 [.inr (.inr 131), .inl a1] [] (z_st m g) Q := y_wp_T (cd := q_c291) (cs := [11, 17, 23, 29, 35, 40, 45, 50, 55, 60, 65]) (ng := []) (sy := []) rfl 300 65 _ _ _ _ h
theorem y_292P : q_P 292 = (q_c292, 3) := rfl
theorem y_292 {m : z_M} {g : z_g} {Q : q_V → q_S → Prop} {a1 : Int} (h :
    z_ok (m 131 48) ∧
    ((m 131 48) = (0 : Int) →
      z_in (m 131 46) 130 ∧
      z_in (m 131 46) 130 ∧
      Q (.inl (m 164 ((m 131 46).toNat))) (z_st (q_upd (q_upd m 164 ((m 131 46).toNat) (m 164 ((m 131 46).toNat))) 131 46 ((m 131 46) + (1 : Int))) g)) ∧
    (¬ (m 131 48) = (0 : Int) →
      z_in (m 131 46) 130 ∧
      Q (.inl a1) (z_st (q_upd (q_upd m 164 ((m 131 46).toNat) a1) 131 46 ((m 131 46) + (1 : Int))) g))) :
    z_C 292 [.inr (.inr 131), .inl a1] (z_st m g) Q := y_C_wp (cs := []) (ng := []) (sy := []) (n := 300) y_292P h
theorem y_293P : q_P 293 = (q_c293, 4) := rfl
theorem y_293 {m : z_M} {g : z_g} {Q : q_V → q_S → Prop} {a2 : Int} {o1 n : Nat} (h :
    z_T 293 2 [.inr (.inr 131), .inr (.inr o1), .inl a2, .inl (0 : Int)] [] (z_st m g) Q) :
    z_C 293 [.inr (.inr 131), .inr (.inr o1), .inl a2] (z_st m g) Q := y_C_wp (cs := [2, 12]) (ng := []) (sy := []) (n := 300) y_293P h
theorem y_293_2 {m : z_M} {g : z_g} {Q : q_V → q_S → Prop} {a2 a3 : Int} {oa1 n : Nat} (h :
    z_ok2 a3 a2 ∧
    (a2 ≤ a3 →
      Q q_dead (z_st m g)) ∧
    (a3 < a2 →
      oa1 < 1000 ∧
      oa1 < 1000 ∧
      z_sp (q_sh0 ++ g.2.2.1) oa1 0 n ∧ z_in a3 n ∧
      z_C 292 [.inr (.inr 131), .inl (m oa1 ((a3).toNat))] (z_st m g) (fun v S => z_T 293 12 [.inr (.inr 131), .inr (.inr oa1), .inl a2, .inl a3] (q_push v [.inl a3, .inr (.inr oa1)]) S Q))) :
    z_T 293 2 [.inr (.inr 131), .inr (.inr oa1), .inl a2, .inl a3] [] (z_st m g) Q := y_wp_T (cd := q_c293) (cs := [2, 12]) (ng := [5, 8]) (sy := [(10, n)]) rfl 300 2 _ _ _ _ h
theorem y_293_12 {m : z_M} {g : z_g} {Q : q_V → q_S → Prop} {a2 a3 s0 s1 : Int} {oa1 os2 n : Nat} (h :
    z_sp (q_sh0 ++ g.2.2.1) os2 0 n ∧ z_in s1 n ∧
    z_T 293 2 [.inr (.inr 131), .inr (.inr oa1), .inl a2, .inl (a3 + (1 : Int))] [] (z_st (q_upd m os2 ((s1).toNat) s0) g) Q) :
    z_T 293 12 [.inr (.inr 131), .inr (.inr oa1), .inl a2, .inl a3] [.inl s0, .inl s1, .inr (.inr os2)] (z_st m g) Q := y_wp_T (cd := q_c293) (cs := [2, 12]) (ng := []) (sy := [(12, n)]) rfl 300 12 _ _ _ _ h
theorem y_294P : q_P 294 = (q_c294, 1) := rfl
theorem y_294 {m : z_M} {g : z_g} {Q : q_V → q_S → Prop} (h :
    z_ok (m 131 47) ∧
    (¬ (m 131 47) = (0 : Int) →
      z_C 291 [.inr (.inr 131), .inl (0 : Int)] (z_st m g) (fun v S => z_T 294 8 [.inr (.inr 131)] (q_push v []) S Q)) ∧
    ((m 131 47) = (0 : Int) →
      Q (.inl (-3 : Int)) (z_st m g))) :
    z_C 294 [.inr (.inr 131)] (z_st m g) Q := y_C_wp (cs := [8]) (ng := []) (sy := []) (n := 300) y_294P h
theorem y_294_8 {m : z_M} {g : z_g} {Q : q_V → q_S → Prop} (h :
    Q (.inl (m 131 8)) (z_st (q_upd m 131 41 (0 : Int)) g)) :
    z_T 294 8 [.inr (.inr 131)] [] (z_st m g) Q := y_wp_T (cd := q_c294) (cs := [8]) (ng := []) (sy := []) rfl 300 8 _ _ _ _ h
theorem y_295P : q_P 295 = (q_c295, 2) := rfl
theorem y_295 {m : z_M} {g : z_g} {Q : q_V → q_S → Prop} {a1 : Int} (h :
    z_ok a1 ∧
    (a1 = (0 : Int) → z_C 216 [.inr (.inr 131)] (z_st m g) (fun v S => z_T 295 4 [.inr (.inr 131), .inl a1] (q_push v []) S Q)) ∧
    (¬ a1 = (0 : Int) → (a1 = (1 : Int) → Q (.inl (m 131 3)) (z_st m g)) ∧
    (¬ a1 = (1 : Int) → (a1 = (2 : Int) → Q (.inl (m 131 8)) (z_st m g)) ∧
    (¬ a1 = (2 : Int) → (a1 = (3 : Int) → Q (.inl (m 131 28)) (z_st m g)) ∧
    (¬ a1 = (3 : Int) → (a1 = (4 : Int) → Q (.inl (m 131 33)) (z_st m g)) ∧
    (¬ a1 = (4 : Int) → (a1 = (5 : Int) → Q (.inl (m 131 37)) (z_st m g)) ∧
    (¬ a1 = (5 : Int) → (a1 = (6 : Int) → Q (.inl (m 131 41)) (z_st m g)) ∧
    (¬ a1 = (6 : Int) → (a1 = (7 : Int) → Q (.inl (m 131 25)) (z_st m g)) ∧
    (¬ a1 = (7 : Int) → Q (.inl (-2 : Int)) (z_st m g)))))))))) :
    z_C 295 [.inr (.inr 131), .inl a1] (z_st m g) Q := y_C_wp (cs := [4]) (ng := []) (sy := []) (n := 300) y_295P h
theorem y_295_4 {m : z_M} {g : z_g} {Q : q_V → q_S → Prop} {a1 s0 : Int} (h :
    Q (.inl s0) (z_st m g)) :
    z_T 295 4 [.inr (.inr 131), .inl a1] [.inl s0] (z_st m g) Q := y_wp_T (cd := q_c295) (cs := [4]) (ng := []) (sy := []) rfl 300 4 _ _ _ _ h
