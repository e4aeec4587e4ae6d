/-! segments of the methods (written by wip/whole/segall.py) -/
theorem y_108P : q_P 108 = (q_c108, 7) := rfl
theorem y_108 {m : z_M} {g : z_g} {Q : q_V → q_S → Prop} {a1 a2 : Int} (h :
    z_rw (q_rfz g.1 g.2.1) 101 a1 6 ∧
    z_sp (q_sh0 ++ g.2.2.1) (102 + (a1).toNat) 0 5 ∧ z_in a2 5 ∧
    z_C 72 [.inr (.inr 29), .inl (m (102 + (a1).toNat) ((a2).toNat))] (z_st m g) (fun v S => z_T 108 9 [.inr (.inr 100), .inl a1, .inl a2, q_dead, q_dead, q_dead, q_dead] (q_push v []) S Q)) :
    z_C 108 [.inr (.inr 100), .inl a1, .inl a2] (z_st m g) Q := y_C_wp (cs := [9, 12, 31, 36, 54, 83]) (ng := []) (sy := [(7, 5)]) (n := 300) y_108P h
theorem y_108_9 {m : z_M} {g : z_g} {Q : q_V → q_S → Prop} {a1 a2 s0 : Int} (h :
    z_T 108 12 [.inr (.inr 100), .inl a1, .inl a2, .inl s0, .inl (0 : Int), q_dead, q_dead] [] (z_st m g) Q) :
    z_T 108 9 [.inr (.inr 100), .inl a1, .inl a2, q_dead, q_dead, q_dead, q_dead] [.inl s0] (z_st m g) Q := y_wp_T (cd := q_c108) (cs := [9, 12, 31, 36, 54, 83]) (ng := []) (sy := []) rfl 300 9 _ _ _ _ h
theorem y_108_12 {m : z_M} {g : z_g} {Q : q_V → q_S → Prop} {a1 a2 a3 a4 : Int} (h :
    z_ok2 a4 (m 100 4) ∧
    ((m 100 4) < a4 →
      z_T 108 36 [.inr (.inr 100), .inl a1, .inl a2, .inl a3, .inl (0 : Int), q_dead, q_dead] [] (z_st m g) Q) ∧
    (a4 ≤ (m 100 4) →
      z_rw (q_rfz g.1 g.2.1) 101 a1 6 ∧
      z_rw (q_rfz g.1 g.2.1) 101 a1 6 ∧
      z_sp (q_sh0 ++ g.2.2.1) (102 + (a1).toNat) 0 5 ∧ z_in a4 5 ∧
      z_C 68 [.inr (.inr 29), .inl (m (102 + (a1).toNat) ((a4).toNat)), .inl a3] (z_st m g) (fun v S => z_T 108 31 [.inr (.inr 100), .inl a1, .inl a2, .inl a3, .inl a4, q_dead, q_dead] (q_push v [.inl a4, .inr (.inr (102 + (a1).toNat))]) S Q))) :
    z_T 108 12 [.inr (.inr 100), .inl a1, .inl a2, .inl a3, .inl a4, q_dead, q_dead] [] (z_st m g) Q := y_wp_T (cd := q_c108) (cs := [9, 12, 31, 36, 54, 83]) (ng := []) (sy := [(28, 5)]) rfl 300 12 _ _ _ _ h
theorem y_108_31 {m : z_M} {g : z_g} {Q : q_V → q_S → Prop} {a1 a2 a3 a4 s0 s1 : Int} {os2 : Nat} (h :
    z_sp (q_sh0 ++ g.2.2.1) os2 0 5 ∧ z_in s1 5 ∧
    z_T 108 12 [.inr (.inr 100), .inl a1, .inl a2, .inl a3, .inl (a4 + (1 : Int)), q_dead, q_dead] [] (z_st (q_upd m os2 ((s1).toNat) s0) g) Q) :
    z_T 108 31 [.inr (.inr 100), .inl a1, .inl a2, .inl a3, .inl a4, q_dead, q_dead] [.inl s0, .inl s1, .inr (.inr os2)] (z_st m g) Q := y_wp_T (cd := q_c108) (cs := [9, 12, 31, 36, 54, 83]) (ng := []) (sy := [(31, 5)]) rfl 300 31 _ _ _ _ h
theorem y_108_36 {m : z_M} {g : z_g} {Q : q_V → q_S → Prop} {a1 a2 a3 a4 : Int} {da5 da6 : q_V} (h :
    z_ok2 a4 (m 100 3) ∧
    ((m 100 3) ≤ a4 →
      Q q_dead (z_st m g)) ∧
    (a4 < (m 100 3) →
      z_ok2 a4 a1 ∧
      (¬ a4 = a1 →
        z_rw (q_rfz g.1 g.2.1) 101 a4 6 ∧
        z_sp (q_sh0 ++ g.2.2.1) (102 + (a4).toNat) 0 5 ∧ z_in a2 5 ∧
        z_T 108 54 [.inr (.inr 100), .inl a1, .inl a2, .inl a3, .inl a4, .inl (m (102 + (a4).toNat) ((a2).toNat)), .inl (0 : Int)] [] (z_st m g) Q) ∧
      (a4 = a1 →
        z_T 108 54 [.inr (.inr 100), .inl a1, .inl a2, .inl a3, .inl a4, .inl (0 : Int), .inl (0 : Int)] [] (z_st m g) Q))) :
    z_T 108 36 [.inr (.inr 100), .inl a1, .inl a2, .inl a3, .inl a4, da5, da6] [] (z_st m g) Q := y_wp_T (cd := q_c108) (cs := [9, 12, 31, 36, 54, 83]) (ng := []) (sy := [(50, 5)]) rfl 300 36 _ _ _ _ h
theorem y_108_54 {m : z_M} {g : z_g} {Q : q_V → q_S → Prop} {a1 a2 a3 a4 a5 a6 : Int} (h :
    z_ok a5 ∧
    (a5 = (0 : Int) →
      z_T 108 36 [.inr (.inr 100), .inl a1, .inl a2, .inl a3, .inl (a4 + (1 : Int)), .inl a5, .inl a6] [] (z_st m g) Q) ∧
    (¬ a5 = (0 : Int) →
      z_ok2 a6 (m 100 4) ∧
      ((m 100 4) < a6 →
        z_T 108 36 [.inr (.inr 100), .inl a1, .inl a2, .inl a3, .inl (a4 + (1 : Int)), .inl a5, .inl a6] [] (z_st m g) Q) ∧
      (a6 ≤ (m 100 4) →
        z_rw (q_rfz g.1 g.2.1) 101 a4 6 ∧
        z_rw (q_rfz g.1 g.2.1) 101 a4 6 ∧
        z_sp (q_sh0 ++ g.2.2.1) (102 + (a4).toNat) 0 5 ∧ z_in a6 5 ∧
        z_rw (q_rfz g.1 g.2.1) 101 a1 6 ∧
        z_sp (q_sh0 ++ g.2.2.1) (102 + (a1).toNat) 0 5 ∧ z_in a6 5 ∧
        z_C 52 [.inr (.inr 29), .inl ((m (102 + (a4).toNat) ((a6).toNat)) - (a5 * (m (102 + (a1).toNat) ((a6).toNat))))] (z_st m g) (fun v S => z_T 108 83 [.inr (.inr 100), .inl a1, .inl a2, .inl a3, .inl a4, .inl a5, .inl a6] (q_push v [.inl a6, .inr (.inr (102 + (a4).toNat))]) S Q)))) :
    z_T 108 54 [.inr (.inr 100), .inl a1, .inl a2, .inl a3, .inl a4, .inl a5, .inl a6] [] (z_st m g) Q := y_wp_T (cd := q_c108) (cs := [9, 12, 31, 36, 54, 83]) (ng := []) (sy := [(72, 5), (79, 5)]) rfl 300 54 _ _ _ _ h
theorem y_108_83 {m : z_M} {g : z_g} {Q : q_V → q_S → Prop} {a1 a2 a3 a4 a5 a6 s0 s1 : Int} {os2 : Nat} (h :
    z_sp (q_sh0 ++ g.2.2.1) os2 0 5 ∧ z_in s1 5 ∧
    z_T 108 54 [.inr (.inr 100), .inl a1, .inl a2, .inl a3, .inl a4, .inl a5, .inl (a6 + (1 : Int))] [] (z_st (q_upd m os2 ((s1).toNat) s0) g) Q) :
    z_T 108 83 [.inr (.inr 100), .inl a1, .inl a2, .inl a3, .inl a4, .inl a5, .inl a6] [.inl s0, .inl s1, .inr (.inr os2)] (z_st m g) Q := y_wp_T (cd := q_c108) (cs := [9, 12, 31, 36, 54, 83]) (ng := []) (sy := [(83, 5)]) rfl 300 83 _ _ _ _ h
theorem y_109P : q_P 109 = (q_c109, 3) := rfl
theorem y_109 {m : z_M} {g : z_g} {Q : q_V → q_S → Prop} {a1 : Int} (h :
    z_T 109 2 [.inr (.inr 100), .inl a1, .inl a1] [] (z_st m g) Q) :
    z_C 109 [.inr (.inr 100), .inl a1] (z_st m g) Q := y_C_wp (cs := [2]) (ng := []) (sy := []) (n := 300) y_109P h
theorem y_109_2 {m : z_M} {g : z_g} {Q : q_V → q_S → Prop} {a1 a2 : Int} (h :
    z_ok2 a2 (m 100 3) ∧
    ((m 100 3) ≤ a2 →
      Q (.inl (1 : Int)) (z_st m g)) ∧
    (a2 < (m 100 3) →
      z_rw (q_rfz g.1 g.2.1) 101 a2 6 ∧
      z_sp (q_sh0 ++ g.2.2.1) (102 + (a2).toNat) 0 5 ∧ z_in (m 100 4) 5 ∧
      z_ok (m (102 + (a2).toNat) ((m 100 4).toNat)) ∧
      ((m (102 + (a2).toNat) ((m 100 4).toNat)) = (0 : Int) →
        z_T 109 2 [.inr (.inr 100), .inl a1, .inl (a2 + (1 : Int))] [] (z_st m g) Q) ∧
      (¬ (m (102 + (a2).toNat) ((m 100 4).toNat)) = (0 : Int) →
        Q (.inl (0 : Int)) (z_st m g)))) :
    z_T 109 2 [.inr (.inr 100), .inl a1, .inl a2] [] (z_st m g) Q := y_wp_T (cd := q_c109) (cs := [2]) (ng := []) (sy := [(12, 5)]) rfl 300 2 _ _ _ _ h
theorem y_110P : q_P 110 = (q_c110, 4) := rfl
theorem y_110 {m : z_M} {g : z_g} {Q : q_V → q_S → Prop} {a1 a2 a3 : Int} (h :
    z_C 45 [.inr (.inr 0), .inl a1] (z_st m g) (fun v S => z_T 110 3 [.inr (.inr 0), .inl a1, .inl a2, .inl a3] (q_push v []) S Q)) :
    z_C 110 [.inr (.inr 0), .inl a1, .inl a2, .inl a3] (z_st m g) Q := y_C_wp (cs := [3, 9, 16, 22, 31, 36]) (ng := []) (sy := []) (n := 300) y_110P h
theorem y_110_3 {m : z_M} {g : z_g} {Q : q_V → q_S → Prop} {a1 a2 a3 s0 : Int} (h :
    z_ok s0 ∧
    (¬ s0 = (0 : Int) →
      z_C 49 [.inr (.inr 0), .inl a1] (z_st m g) (fun v S => z_T 110 9 [.inr (.inr 0), .inl a1, .inl a2, .inl a3] (q_push v []) S Q)) ∧
    (s0 = (0 : Int) →
      Q (.inl (-1 : Int)) (z_st m g))) :
    z_T 110 3 [.inr (.inr 0), .inl a1, .inl a2, .inl a3] [.inl s0] (z_st m g) Q := y_wp_T (cd := q_c110) (cs := [3, 9, 16, 22, 31, 36]) (ng := []) (sy := []) rfl 300 3 _ _ _ _ h
theorem y_110_9 {m : z_M} {g : z_g} {Q : q_V → q_S → Prop} {a1 a2 a3 : Int} (h :
    z_ok a3 ∧
    (a3 < (0 : Int) →
      Q (.inl (-1 : Int)) (z_st m g)) ∧
    ((0 : Int) ≤ a3 →
      z_C 34 [.inr (.inr 66)] (z_st m g) (fun v S => z_T 110 16 [.inr (.inr 0), .inl a1, .inl a2, .inl a3] (q_push v [.inl a3]) S Q))) :
    z_T 110 9 [.inr (.inr 0), .inl a1, .inl a2, .inl a3] [] (z_st m g) Q := y_wp_T (cd := q_c110) (cs := [3, 9, 16, 22, 31, 36]) (ng := []) (sy := []) rfl 300 9 _ _ _ _ h
theorem y_110_16 {m : z_M} {g : z_g} {Q : q_V → q_S → Prop} {a1 a2 a3 s0 s1 : Int} (h :
    z_ok2 s1 s0 ∧
    (s1 < s0 →
      z_C 93 [.inr (.inr 0), .inl a2] (z_st m g) (fun v S => z_T 110 22 [.inr (.inr 0), .inl a1, .inl a2, .inl a3] (q_push v []) S Q)) ∧
    (s0 ≤ s1 →
      Q (.inl (-1 : Int)) (z_st m g))) :
    z_T 110 16 [.inr (.inr 0), .inl a1, .inl a2, .inl a3] [.inl s0, .inl s1] (z_st m g) Q := y_wp_T (cd := q_c110) (cs := [3, 9, 16, 22, 31, 36]) (ng := []) (sy := []) rfl 300 16 _ _ _ _ h
theorem y_110_22 {m : z_M} {g : z_g} {Q : q_V → q_S → Prop} {a1 a2 a3 s0 : Int} (h :
    z_ok s0 ∧
    (¬ s0 = (0 : Int) →
      z_C 106 [.inr (.inr 100), .inr (.inr 65), .inl a2] (z_st m g) (fun v S => z_T 110 31 [.inr (.inr 0), .inl a1, .inl a2, .inl a3] (q_push v []) S Q)) ∧
    (s0 = (0 : Int) →
      Q (.inl (-2 : Int)) (z_st m g))) :
    z_T 110 22 [.inr (.inr 0), .inl a1, .inl a2, .inl a3] [.inl s0] (z_st m g) Q := y_wp_T (cd := q_c110) (cs := [3, 9, 16, 22, 31, 36]) (ng := []) (sy := []) rfl 300 22 _ _ _ _ h
theorem y_110_31 {m : z_M} {g : z_g} {Q : q_V → q_S → Prop} {a1 a2 a3 s0 : Int} (h :
    z_ok s0 ∧
    (s0 = (0 : Int) →
      Q (.inl (-5 : Int)) (z_st m g)) ∧
    (¬ s0 = (0 : Int) →
      z_C 111 [.inr (.inr 100), .inl a3] (z_st m g) (fun v S => z_T 110 36 [.inr (.inr 0), .inl a1, .inl a2, .inl a3] (q_push v []) S Q))) :
    z_T 110 31 [.inr (.inr 0), .inl a1, .inl a2, .inl a3] [.inl s0] (z_st m g) Q := y_wp_T (cd := q_c110) (cs := [3, 9, 16, 22, 31, 36]) (ng := []) (sy := []) rfl 300 31 _ _ _ _ h
theorem y_110_36 {m : z_M} {g : z_g} {Q : q_V → q_S → Prop} {a1 a2 a3 s0 : Int} (h :
    Q (.inl s0) (z_st m g)) :
    z_T 110 36 [.inr (.inr 0), .inl a1, .inl a2, .inl a3] [.inl s0] (z_st m g) Q := y_wp_T (cd := q_c110) (cs := [3, 9, 16, 22, 31, 36]) (ng := []) (sy := []) rfl 300 36 _ _ _ _ h
theorem y_111P : q_P 111 = (q_c111, 2) := rfl
theorem y_111 {m : z_M} {g : z_g} {Q : q_V → q_S → Prop} {a1 : Int} (h :
    z_ok a1 ∧
    (a1 < (0 : Int) →
      Q (.inl (0 : Int)) (z_st m g)) ∧
    ((0 : Int) ≤ a1 →
      z_ok2 a1 (m 100 4) ∧
      (a1 < (m 100 4) →
        z_in a1 6 ∧
        Q (.inl (m 108 ((a1).toNat))) (z_st m g)) ∧
      ((m 100 4) ≤ a1 →
        Q (.inl (0 : Int)) (z_st m g)))) :
    z_C 111 [.inr (.inr 100), .inl a1] (z_st m g) Q := y_C_wp (cs := []) (ng := []) (sy := []) (n := 300) y_111P h
theorem y_112P : q_P 112 = (q_c112, 4) := rfl
theorem y_112 {m : z_M} {g : z_g} {Q : q_V → q_S → Prop} {a1 a2 : Int} (h :
    z_C 45 [.inr (.inr 0), .inl a1] (z_st m g) (fun v S => z_T 112 3 [.inr (.inr 0), .inl a1, .inl a2, q_dead] (q_push v []) S Q)) :
    z_C 112 [.inr (.inr 0), .inl a1, .inl a2] (z_st m g) Q := y_C_wp (cs := [3, 9, 15, 18, 21, 29]) (ng := []) (sy := []) (n := 300) y_112P h
theorem y_112_3 {m : z_M} {g : z_g} {Q : q_V → q_S → Prop} {a1 a2 s0 : Int} (h :
    z_ok s0 ∧
    (¬ s0 = (0 : Int) →
      z_C 93 [.inr (.inr 0), .inl a2] (z_st m g) (fun v S => z_T 112 9 [.inr (.inr 0), .inl a1, .inl a2, q_dead] (q_push v []) S Q)) ∧
    (s0 = (0 : Int) →
      Q (.inl (-1 : Int)) (z_st m g))) :
    z_T 112 3 [.inr (.inr 0), .inl a1, .inl a2, q_dead] [.inl s0] (z_st m g) Q := y_wp_T (cd := q_c112) (cs := [3, 9, 15, 18, 21, 29]) (ng := []) (sy := []) rfl 300 3 _ _ _ _ h
theorem y_112_9 {m : z_M} {g : z_g} {Q : q_V → q_S → Prop} {a1 a2 s0 : Int} (h :
    z_ok s0 ∧
    (¬ s0 = (0 : Int) →
      z_C 49 [.inr (.inr 0), .inl a1] (z_st m g) (fun v S => z_T 112 15 [.inr (.inr 0), .inl a1, .inl a2, q_dead] (q_push v []) S Q)) ∧
    (s0 = (0 : Int) →
      Q (.inl (-2 : Int)) (z_st m g))) :
    z_T 112 9 [.inr (.inr 0), .inl a1, .inl a2, q_dead] [.inl s0] (z_st m g) Q := y_wp_T (cd := q_c112) (cs := [3, 9, 15, 18, 21, 29]) (ng := []) (sy := []) rfl 300 9 _ _ _ _ h
theorem y_112_15 {m : z_M} {g : z_g} {Q : q_V → q_S → Prop} {a1 a2 : Int} (h :
    z_C 113 [.inr (.inr 127)] (z_st m g) (fun v S => z_T 112 18 [.inr (.inr 0), .inl a1, .inl a2, q_dead] (q_push v []) S Q)) :
    z_T 112 15 [.inr (.inr 0), .inl a1, .inl a2, q_dead] [] (z_st m g) Q := y_wp_T (cd := q_c112) (cs := [3, 9, 15, 18, 21, 29]) (ng := []) (sy := []) rfl 300 15 _ _ _ _ h
theorem y_112_18 {m : z_M} {g : z_g} {Q : q_V → q_S → Prop} {a1 a2 : Int} (h :
    z_C 114 [.inr (.inr 0), .inl a2] (z_st m g) (fun v S => z_T 112 21 [.inr (.inr 0), .inl a1, .inl a2, q_dead] (q_push v []) S Q)) :
    z_T 112 18 [.inr (.inr 0), .inl a1, .inl a2, q_dead] [] (z_st m g) Q := y_wp_T (cd := q_c112) (cs := [3, 9, 15, 18, 21, 29]) (ng := []) (sy := []) rfl 300 18 _ _ _ _ h
theorem y_112_21 {m : z_M} {g : z_g} {Q : q_V → q_S → Prop} {a1 a2 s0 : Int} (h :
    z_ok s0 ∧
    (s0 = (0 : Int) →
      z_T 112 29 [.inr (.inr 0), .inl a1, .inl a2, .inl s0] [] (z_st m g) Q) ∧
    (¬ s0 = (0 : Int) →
      z_C 115 [.inr (.inr 0), .inl a1, .inl a2, .inl s0] (z_st m g) (fun v S => z_T 112 29 [.inr (.inr 0), .inl a1, .inl a2, .inl s0] (q_push v []) S Q))) :
    z_T 112 21 [.inr (.inr 0), .inl a1, .inl a2, q_dead] [.inl s0] (z_st m g) Q := y_wp_T (cd := q_c112) (cs := [3, 9, 15, 18, 21, 29]) (ng := []) (sy := []) rfl 300 21 _ _ _ _ h
theorem y_112_29 {m : z_M} {g : z_g} {Q : q_V → q_S → Prop} {a1 a2 a3 : Int} (h :
    Q (.inl a3) (z_st m g)) :
    z_T 112 29 [.inr (.inr 0), .inl a1, .inl a2, .inl a3] [] (z_st m g) Q := y_wp_T (cd := q_c112) (cs := [3, 9, 15, 18, 21, 29]) (ng := []) (sy := []) rfl 300 29 _ _ _ _ h
theorem y_113P : q_P 113 = (q_c113, 1) := rfl
theorem y_113 {m : z_M} {g : z_g} {Q : q_V → q_S → Prop} (h :
    Q q_dead (z_st (q_upd m 127 0 (0 : Int)) g)) :
    z_C 113 [.inr (.inr 127)] (z_st m g) Q := y_C_wp (cs := []) (ng := []) (sy := []) (n := 300) y_113P h
theorem y_114P : q_P 114 = (q_c114, 2) := rfl
theorem y_114 {m : z_M} {g : z_g} {Q : q_V → q_S → Prop} {a1 : Int} (h :
    z_C 60 [.inr (.inr 65), .inl a1] (z_st m g) (fun v S => z_T 114 4 [.inr (.inr 0), .inl a1] (q_push v []) S Q)) :
    z_C 114 [.inr (.inr 0), .inl a1] (z_st m g) Q := y_C_wp (cs := [4, 11, 16, 25]) (ng := []) (sy := []) (n := 300) y_114P h
theorem y_114_4 {m : z_M} {g : z_g} {Q : q_V → q_S → Prop} {a1 s0 : Int} (h :
    z_ok s0 ∧
    (s0 = (0 : Int) →
      z_C 64 [.inr (.inr 65), .inl a1] (z_st m g) (fun v S => z_T 114 11 [.inr (.inr 0), .inl a1] (q_push v []) S Q)) ∧
    (¬ s0 = (0 : Int) →
      Q (.inl (1 : Int)) (z_st m g))) :
    z_T 114 4 [.inr (.inr 0), .inl a1] [.inl s0] (z_st m g) Q := y_wp_T (cd := q_c114) (cs := [4, 11, 16, 25]) (ng := []) (sy := []) rfl 300 4 _ _ _ _ h
theorem y_114_11 {m : z_M} {g : z_g} {Q : q_V → q_S → Prop} {a1 s0 : Int} (h :
    z_ok s0 ∧
    (s0 = (0 : Int) →
      z_C 84 [.inr (.inr 0)] (z_st m g) (fun v S => z_T 114 16 [.inr (.inr 0), .inl a1] (q_push v []) S Q)) ∧
    (¬ s0 = (0 : Int) →
      Q (.inl (2 : Int)) (z_st m g))) :
    z_T 114 11 [.inr (.inr 0), .inl a1] [.inl s0] (z_st m g) Q := y_wp_T (cd := q_c114) (cs := [4, 11, 16, 25]) (ng := []) (sy := []) rfl 300 11 _ _ _ _ h
theorem y_114_16 {m : z_M} {g : z_g} {Q : q_V → q_S → Prop} {a1 s0 : Int} (h :
    z_ok s0 ∧
    (s0 = (0 : Int) →
      z_C 106 [.inr (.inr 100), .inr (.inr 65), .inl a1] (z_st m g) (fun v S => z_T 114 25 [.inr (.inr 0), .inl a1] (q_push v []) S Q)) ∧
    (¬ s0 = (0 : Int) →
      Q (.inl (3 : Int)) (z_st m g))) :
    z_T 114 16 [.inr (.inr 0), .inl a1] [.inl s0] (z_st m g) Q := y_wp_T (cd := q_c114) (cs := [4, 11, 16, 25]) (ng := []) (sy := []) rfl 300 16 _ _ _ _ h
theorem y_114_25 {m : z_M} {g : z_g} {Q : q_V → q_S → Prop} {a1 s0 : Int} (h :
    z_ok s0 ∧
    (s0 = (0 : Int) →
      Q (.inl (4 : Int)) (z_st m g)) ∧
    (¬ s0 = (0 : Int) →
      Q (.inl (0 : Int)) (z_st m g))) :
    z_T 114 25 [.inr (.inr 0), .inl a1] [.inl s0] (z_st m g) Q := y_wp_T (cd := q_c114) (cs := [4, 11, 16, 25]) (ng := []) (sy := []) rfl 300 25 _ _ _ _ h
theorem y_115P : q_P 115 = (q_c115, 4) := rfl
theorem y_115 {m : z_M} {g : z_g} {Q : q_V → q_S → Prop} {a1 a2 a3 : Int} (h :
    z_C 116 [.inr (.inr 127), .inl (10 : Int), .inl a1] (z_st m g) (fun v S => z_T 115 5 [.inr (.inr 0), .inl a1, .inl a2, .inl a3] (q_push v []) S Q)) :
    z_C 115 [.inr (.inr 0), .inl a1, .inl a2, .inl a3] (z_st m g) Q := y_C_wp (cs := [5, 15, 16, 27, 28, 34, 35, 36, 45, 46, 55, 61, 62, 63]) (ng := []) (sy := []) (n := 300) y_115P h
theorem y_115_5 {m : z_M} {g : z_g} {Q : q_V → q_S → Prop} {a1 a2 a3 : Int} (h :
    z_ok2 a3 (1 : Int) ∧
    (¬ a3 = (1 : Int) →
      z_ok2 a3 (2 : Int) ∧
      (¬ a3 = (2 : Int) →
        z_ok2 a3 (3 : Int) ∧
        (¬ a3 = (3 : Int) →
          z_C 116 [.inr (.inr 127), .inl (4 : Int), .inl (m 66 1)] (z_st m g) (fun v S => z_T 115 55 [.inr (.inr 0), .inl a1, .inl a2, .inl a3] (q_push v []) S Q)) ∧
        (a3 = (3 : Int) →
          z_C 84 [.inr (.inr 0)] (z_st m g) (fun v S => z_T 115 45 [.inr (.inr 0), .inl a1, .inl a2, .inl a3] (q_push v [.inl (3 : Int), .inr (.inr 127)]) S Q))) ∧
      (a3 = (2 : Int) →
        z_C 64 [.inr (.inr 65), .inl a2] (z_st m g) (fun v S => z_T 115 27 [.inr (.inr 0), .inl a1, .inl a2, .inl a3] (q_push v [.inl (2 : Int), .inr (.inr 127)]) S Q))) ∧
    (a3 = (1 : Int) →
      z_C 60 [.inr (.inr 65), .inl a2] (z_st m g) (fun v S => z_T 115 15 [.inr (.inr 0), .inl a1, .inl a2, .inl a3] (q_push v [.inl (1 : Int), .inr (.inr 127)]) S Q))) :
    z_T 115 5 [.inr (.inr 0), .inl a1, .inl a2, .inl a3] [] (z_st m g) Q := y_wp_T (cd := q_c115) (cs := [5, 15, 16, 27, 28, 34, 35, 36, 45, 46, 55, 61, 62, 63]) (ng := []) (sy := []) rfl 300 5 _ _ _ _ h
theorem y_115_15 {m : z_M} {g : z_g} {Q : q_V → q_S → Prop} {a1 a2 a3 s0 s1 : Int} (h :
    z_C 116 [.inr (.inr 127), .inl s1, .inl s0] (z_st m g) (fun v S => z_T 115 16 [.inr (.inr 0), .inl a1, .inl a2, .inl a3] (q_push v []) S Q)) :
    z_T 115 15 [.inr (.inr 0), .inl a1, .inl a2, .inl a3] [.inl s0, .inl s1, .inr (.inr 127)] (z_st m g) Q := y_wp_T (cd := q_c115) (cs := [5, 15, 16, 27, 28, 34, 35, 36, 45, 46, 55, 61, 62, 63]) (ng := []) (sy := []) rfl 300 15 _ _ _ _ h
theorem y_115_16 {m : z_M} {g : z_g} {Q : q_V → q_S → Prop} {a1 a2 a3 : Int} (h :
    z_T 115 63 [.inr (.inr 0), .inl a1, .inl a2, .inl a3] [] (z_st m g) Q) :
    z_T 115 16 [.inr (.inr 0), .inl a1, .inl a2, .inl a3] [] (z_st m g) Q := y_wp_T (cd := q_c115) (cs := [5, 15, 16, 27, 28, 34, 35, 36, 45, 46, 55, 61, 62, 63]) (ng := []) (sy := []) rfl 300 16 _ _ _ _ h
theorem y_115_27 {m : z_M} {g : z_g} {Q : q_V → q_S → Prop} {a1 a2 a3 s0 s1 : Int} (h :
    z_C 116 [.inr (.inr 127), .inl s1, .inl s0] (z_st m g) (fun v S => z_T 115 28 [.inr (.inr 0), .inl a1, .inl a2, .inl a3] (q_push v []) S Q)) :
    z_T 115 27 [.inr (.inr 0), .inl a1, .inl a2, .inl a3] [.inl s0, .inl s1, .inr (.inr 127)] (z_st m g) Q := y_wp_T (cd := q_c115) (cs := [5, 15, 16, 27, 28, 34, 35, 36, 45, 46, 55, 61, 62, 63]) (ng := []) (sy := []) rfl 300 27 _ _ _ _ h
theorem y_115_28 {m : z_M} {g : z_g} {Q : q_V → q_S → Prop} {a1 a2 a3 : Int} (h :
    z_C 62 [.inr (.inr 65)] (z_st m g) (fun v S => z_T 115 34 [.inr (.inr 0), .inl a1, .inl a2, .inl a3] (q_push v [.inl (6 : Int), .inr (.inr 127)]) S Q)) :
    z_T 115 28 [.inr (.inr 0), .inl a1, .inl a2, .inl a3] [] (z_st m g) Q := y_wp_T (cd := q_c115) (cs := [5, 15, 16, 27, 28, 34, 35, 36, 45, 46, 55, 61, 62, 63]) (ng := []) (sy := []) rfl 300 28 _ _ _ _ h
theorem y_115_34 {m : z_M} {g : z_g} {Q : q_V → q_S → Prop} {a1 a2 a3 s0 s1 : Int} (h :
    z_C 19 [.inl s0] (z_st m g) (fun v S => z_T 115 35 [.inr (.inr 0), .inl a1, .inl a2, .inl a3] (q_push v [.inl s1, .inr (.inr 127)]) S Q)) :
    z_T 115 34 [.inr (.inr 0), .inl a1, .inl a2, .inl a3] [.inl s0, .inl s1, .inr (.inr 127)] (z_st m g) Q := y_wp_T (cd := q_c115) (cs := [5, 15, 16, 27, 28, 34, 35, 36, 45, 46, 55, 61, 62, 63]) (ng := []) (sy := []) rfl 300 34 _ _ _ _ h
theorem y_115_35 {m : z_M} {g : z_g} {Q : q_V → q_S → Prop} {a1 a2 a3 s0 s1 : Int} (h :
    z_C 116 [.inr (.inr 127), .inl s1, .inl s0] (z_st m g) (fun v S => z_T 115 36 [.inr (.inr 0), .inl a1, .inl a2, .inl a3] (q_push v []) S Q)) :
    z_T 115 35 [.inr (.inr 0), .inl a1, .inl a2, .inl a3] [.inl s0, .inl s1, .inr (.inr 127)] (z_st m g) Q := y_wp_T (cd := q_c115) (cs := [5, 15, 16, 27, 28, 34, 35, 36, 45, 46, 55, 61, 62, 63]) (ng := []) (sy := []) rfl 300 35 _ _ _ _ h
theorem y_115_36 {m : z_M} {g : z_g} {Q : q_V → q_S → Prop} {a1 a2 a3 : Int} (h :
    z_T 115 63 [.inr (.inr 0), .inl a1, .inl a2, .inl a3] [] (z_st m g) Q) :
    z_T 115 36 [.inr (.inr 0), .inl a1, .inl a2, .inl a3] [] (z_st m g) Q := y_wp_T (cd := q_c115) (cs := [5, 15, 16, 27, 28, 34, 35, 36, 45, 46, 55, 61, 62, 63]) (ng := []) (sy := []) rfl 300 36 _ _ _ _ h
theorem y_115_45 {m : z_M} {g : z_g} {Q : q_V → q_S → Prop} {a1 a2 a3 s0 s1 : Int} (h :
    z_C 116 [.inr (.inr 127), .inl s1, .inl s0] (z_st m g) (fun v S => z_T 115 46 [.inr (.inr 0), .inl a1, .inl a2, .inl a3] (q_push v []) S Q)) :
    z_T 115 45 [.inr (.inr 0), .inl a1, .inl a2, .inl a3] [.inl s0, .inl s1, .inr (.inr 127)] (z_st m g) Q := y_wp_T (cd := q_c115) (cs := [5, 15, 16, 27, 28, 34, 35, 36, 45, 46, 55, 61, 62, 63]) (ng := []) (sy := []) rfl 300 45 _ _ _ _ h
theorem y_115_46 {m : z_M} {g : z_g} {Q : q_V → q_S → Prop} {a1 a2 a3 : Int} (h :
    z_T 115 63 [.inr (.inr 0), .inl a1, .inl a2, .inl a3] [] (z_st m g) Q) :
    z_T 115 46 [.inr (.inr 0), .inl a1, .inl a2, .inl a3] [] (z_st m g) Q := y_wp_T (cd := q_c115) (cs := [5, 15, 16, 27, 28, 34, 35, 36, 45, 46, 55, 61, 62, 63]) (ng := []) (sy := []) rfl 300 46 _ _ _ _ h
theorem y_115_55 {m : z_M} {g : z_g} {Q : q_V → q_S → Prop} {a1 a2 a3 : Int} (h :
    z_C 59 [.inr (.inr 65)] (z_st m g) (fun v S => z_T 115 61 [.inr (.inr 0), .inl a1, .inl a2, .inl a3] (q_push v [.inl (7 : Int), .inr (.inr 127)]) S Q)) :
    z_T 115 55 [.inr (.inr 0), .inl a1, .inl a2, .inl a3] [] (z_st m g) Q := y_wp_T (cd := q_c115) (cs := [5, 15, 16, 27, 28, 34, 35, 36, 45, 46, 55, 61, 62, 63]) (ng := []) (sy := []) rfl 300 55 _ _ _ _ h
theorem y_115_61 {m : z_M} {g : z_g} {Q : q_V → q_S → Prop} {a1 a2 a3 s0 s1 : Int} (h :
    z_C 19 [.inl s0] (z_st m g) (fun v S => z_T 115 62 [.inr (.inr 0), .inl a1, .inl a2, .inl a3] (q_push v [.inl s1, .inr (.inr 127)]) S Q)) :
    z_T 115 61 [.inr (.inr 0), .inl a1, .inl a2, .inl a3] [.inl s0, .inl s1, .inr (.inr 127)] (z_st m g) Q := y_wp_T (cd := q_c115) (cs := [5, 15, 16, 27, 28, 34, 35, 36, 45, 46, 55, 61, 62, 63]) (ng := []) (sy := []) rfl 300 61 _ _ _ _ h
theorem y_115_62 {m : z_M} {g : z_g} {Q : q_V → q_S → Prop} {a1 a2 a3 s0 s1 : Int} (h :
    z_C 116 [.inr (.inr 127), .inl s1, .inl s0] (z_st m g) (fun v S => z_T 115 63 [.inr (.inr 0), .inl a1, .inl a2, .inl a3] (q_push v []) S Q)) :
    z_T 115 62 [.inr (.inr 0), .inl a1, .inl a2, .inl a3] [.inl s0, .inl s1, .inr (.inr 127)] (z_st m g) Q := y_wp_T (cd := q_c115) (cs := [5, 15, 16, 27, 28, 34, 35, 36, 45, 46, 55, 61, 62, 63]) (ng := []) (sy := []) rfl 300 62 _ _ _ _ h
theorem y_115_63 {m : z_M} {g : z_g} {Q : q_V → q_S → Prop} {a1 a2 a3 : Int} (h :
    Q q_dead (z_st m g)) :
    z_T 115 63 [.inr (.inr 0), .inl a1, .inl a2, .inl a3] [] (z_st m g) Q := y_wp_T (cd := q_c115) (cs := [5, 15, 16, 27, 28, 34, 35, 36, 45, 46, 55, 61, 62, 63]) (ng := []) (sy := []) rfl 300 63 _ _ _ _ h
theorem y_116P : q_P 116 = (q_c116, 3) := rfl
theorem y_116 {m : z_M} {g : z_g} {Q : q_V → q_S → Prop} {a1 a2 : Int} (h :
    z_ok2 (m 127 0) (3 : Int) ∧
    ((3 : Int) ≤ (m 127 0) →
      Q q_dead (z_st m g)) ∧
    ((m 127 0) < (3 : Int) →
      z_in (m 127 0) 3 ∧
      z_in (m 127 0) 3 ∧
      Q q_dead (z_st (q_upd (q_upd (q_upd m 128 ((m 127 0).toNat) a1) 129 ((m 127 0).toNat) a2) 127 0 ((m 127 0) + (1 : Int))) g))) :
    z_C 116 [.inr (.inr 127), .inl a1, .inl a2] (z_st m g) Q := y_C_wp (cs := []) (ng := []) (sy := []) (n := 300) y_116P h
theorem y_117P : q_P 117 = (q_c117, 3) := rfl
theorem y_117 {m : z_M} {g : z_g} {Q : q_V → q_S → Prop} {a1 a2 : Int} (h :
    z_ok a1 ∧
    (a1 < (0 : Int) →
      Q (.inl (-1 : Int)) (z_st m g)) ∧
    ((0 : Int) ≤ a1 →
      z_ok2 a1 (m 127 0) ∧
      ((m 127 0) ≤ a1 →
        Q (.inl (-1 : Int)) (z_st m g)) ∧
      (a1 < (m 127 0) →
        z_ok a2 ∧
        (a2 < (0 : Int) →
          Q (.inl (-1 : Int)) (z_st m g)) ∧
        ((0 : Int) ≤ a2 →
          z_ok2 a2 (1 : Int) ∧
          (a2 ≤ (1 : Int) →
            z_ok a2 ∧
            (¬ a2 = (0 : Int) →
              z_in a1 3 ∧
              Q (.inl (m 129 ((a1).toNat))) (z_st m g)) ∧
            (a2 = (0 : Int) →
              z_in a1 3 ∧
              Q (.inl (m 128 ((a1).toNat))) (z_st m g))) ∧
          ((1 : Int) < a2 →
            Q (.inl (-1 : Int)) (z_st m g)))))) :
    z_C 117 [.inr (.inr 0), .inl a1, .inl a2] (z_st m g) Q := y_C_wp (cs := []) (ng := []) (sy := []) (n := 300) y_117P h
theorem y_118P : q_P 118 = (q_c118, 7) := rfl
theorem y_118 {m : z_M} {g : z_g} {Q : q_V → q_S → Prop} {a1 : Int} (h :
    z_C 45 [.inr (.inr 0), .inl a1] (z_st m g) (fun v S => z_T 118 3 [.inr (.inr 0), .inl a1, q_dead, q_dead, q_dead, q_dead, q_dead] (q_push v []) S Q)) :
    z_C 118 [.inr (.inr 0), .inl a1] (z_st m g) Q := y_C_wp (cs := [3, 9, 15, 17, 25, 27, 35, 49, 50, 55]) (ng := []) (sy := []) (n := 300) y_118P h
theorem y_118_3 {m : z_M} {g : z_g} {Q : q_V → q_S → Prop} {a1 s0 : Int} (h :
    z_ok s0 ∧
    (¬ s0 = (0 : Int) →
      z_C 49 [.inr (.inr 0), .inl a1] (z_st m g) (fun v S => z_T 118 9 [.inr (.inr 0), .inl a1, q_dead, q_dead, q_dead, q_dead, q_dead] (q_push v []) S Q)) ∧
    (s0 = (0 : Int) →
      Q (.inl (-1 : Int)) (z_st m g))) :
    z_T 118 3 [.inr (.inr 0), .inl a1, q_dead, q_dead, q_dead, q_dead, q_dead] [.inl s0] (z_st m g) Q := y_wp_T (cd := q_c118) (cs := [3, 9, 15, 17, 25, 27, 35, 49, 50, 55]) (ng := []) (sy := []) rfl 300 3 _ _ _ _ h
theorem y_118_9 {m : z_M} {g : z_g} {Q : q_V → q_S → Prop} {a1 : Int} (h :
    z_C 29 [.inr (.inr 66)] (z_st m g) (fun v S => z_T 118 15 [.inr (.inr 0), .inl a1, .inr (.inr 66), q_dead, q_dead, q_dead, q_dead] (q_push v []) S Q)) :
    z_T 118 9 [.inr (.inr 0), .inl a1, q_dead, q_dead, q_dead, q_dead, q_dead] [] (z_st m g) Q := y_wp_T (cd := q_c118) (cs := [3, 9, 15, 17, 25, 27, 35, 49, 50, 55]) (ng := []) (sy := []) rfl 300 9 _ _ _ _ h
theorem y_118_15 {m : z_M} {g : z_g} {Q : q_V → q_S → Prop} {a1 s0 : Int} (h :
    z_C 27 [.inr (.inr 66)] (z_st m g) (fun v S => z_T 118 17 [.inr (.inr 0), .inl a1, .inr (.inr 66), q_dead, q_dead, q_dead, q_dead] (q_push v [.inl s0]) S Q)) :
    z_T 118 15 [.inr (.inr 0), .inl a1, .inr (.inr 66), q_dead, q_dead, q_dead, q_dead] [.inl s0] (z_st m g) Q := y_wp_T (cd := q_c118) (cs := [3, 9, 15, 17, 25, 27, 35, 49, 50, 55]) (ng := []) (sy := []) rfl 300 15 _ _ _ _ h
theorem y_118_17 {m : z_M} {g : z_g} {Q : q_V → q_S → Prop} {a1 s0 s1 : Int} (h :
    z_C 10 [.inr (.inr 130), .inl (0 : Int)] (z_st m g) (fun v S => z_T 118 25 [.inr (.inr 0), .inl a1, .inr (.inr 66), .inl (s1 + s0), .inl (0 : Int), q_dead, q_dead] (q_push v []) S Q)) :
    z_T 118 17 [.inr (.inr 0), .inl a1, .inr (.inr 66), q_dead, q_dead, q_dead, q_dead] [.inl s0, .inl s1] (z_st m g) Q := y_wp_T (cd := q_c118) (cs := [3, 9, 15, 17, 25, 27, 35, 49, 50, 55]) (ng := []) (sy := []) rfl 300 17 _ _ _ _ h
theorem y_118_25 {m : z_M} {g : z_g} {Q : q_V → q_S → Prop} {a1 a3 a4 : Int} (h :
    z_T 118 27 [.inr (.inr 0), .inl a1, .inr (.inr 66), .inl a3, .inl a4, .inl (0 : Int), q_dead] [] (z_st m g) Q) :
    z_T 118 25 [.inr (.inr 0), .inl a1, .inr (.inr 66), .inl a3, .inl a4, q_dead, q_dead] [] (z_st m g) Q := y_wp_T (cd := q_c118) (cs := [3, 9, 15, 17, 25, 27, 35, 49, 50, 55]) (ng := []) (sy := []) rfl 300 25 _ _ _ _ h
theorem y_118_27 {m : z_M} {g : z_g} {Q : q_V → q_S → Prop} {a1 a3 a4 a5 : Int} {da6 : q_V} (h :
    z_ok2 a5 (m 66 1) ∧
    ((m 66 1) ≤ a5 →
      z_C 119 [.inr (.inr 0), .inl a4] (z_st m g) (fun v S => z_T 118 55 [.inr (.inr 0), .inl a1, .inr (.inr 66), .inl a3, .inl a4, .inl a5, da6] (q_push v []) S Q)) ∧
    (a5 < (m 66 1) →
      z_C 28 [.inr (.inr 66), .inl a5] (z_st m g) (fun v S => z_T 118 35 [.inr (.inr 0), .inl a1, .inr (.inr 66), .inl a3, .inl a4, .inl a5, da6] (q_push v [.inl a3]) S Q))) :
    z_T 118 27 [.inr (.inr 0), .inl a1, .inr (.inr 66), .inl a3, .inl a4, .inl a5, da6] [] (z_st m g) Q := y_wp_T (cd := q_c118) (cs := [3, 9, 15, 17, 25, 27, 35, 49, 50, 55]) (ng := []) (sy := []) rfl 300 27 _ _ _ _ h
theorem y_118_35 {m : z_M} {g : z_g} {Q : q_V → q_S → Prop} {a1 a3 a4 a5 s0 s1 : Int} {da6 : q_V} (h :
    z_C 67 [.inr (.inr 65), .inl a5] (z_st m g) (fun v S => z_T 118 49 [.inr (.inr 0), .inl a1, .inr (.inr 66), .inl a3, .inl (q_bin 4 a4 (q_bin 6 (1 : Int) (s1 - s0))), .inl a5, .inl (s1 - s0)] (q_push v [.inl (s1 - s0), .inr (.inr 0)]) S Q)) :
    z_T 118 35 [.inr (.inr 0), .inl a1, .inr (.inr 66), .inl a3, .inl a4, .inl a5, da6] [.inl s0, .inl s1] (z_st m g) Q := y_wp_T (cd := q_c118) (cs := [3, 9, 15, 17, 25, 27, 35, 49, 50, 55]) (ng := []) (sy := []) rfl 300 35 _ _ _ _ h
theorem y_118_49 {m : z_M} {g : z_g} {Q : q_V → q_S → Prop} {a1 a3 a4 a5 a6 s0 s1 : Int} (h :
    z_C 102 [.inr (.inr 0), .inl s1, .inl s0] (z_st m g) (fun v S => z_T 118 50 [.inr (.inr 0), .inl a1, .inr (.inr 66), .inl a3, .inl a4, .inl a5, .inl a6] (q_push v []) S Q)) :
    z_T 118 49 [.inr (.inr 0), .inl a1, .inr (.inr 66), .inl a3, .inl a4, .inl a5, .inl a6] [.inl s0, .inl s1, .inr (.inr 0)] (z_st m g) Q := y_wp_T (cd := q_c118) (cs := [3, 9, 15, 17, 25, 27, 35, 49, 50, 55]) (ng := []) (sy := []) rfl 300 49 _ _ _ _ h
theorem y_118_50 {m : z_M} {g : z_g} {Q : q_V → q_S → Prop} {a1 a3 a4 a5 a6 : Int} (h :
    z_T 118 27 [.inr (.inr 0), .inl a1, .inr (.inr 66), .inl a3, .inl a4, .inl (a5 + (1 : Int)), .inl a6] [] (z_st m g) Q) :
    z_T 118 50 [.inr (.inr 0), .inl a1, .inr (.inr 66), .inl a3, .inl a4, .inl a5, .inl a6] [] (z_st m g) Q := y_wp_T (cd := q_c118) (cs := [3, 9, 15, 17, 25, 27, 35, 49, 50, 55]) (ng := []) (sy := []) rfl 300 50 _ _ _ _ h
theorem y_118_55 {m : z_M} {g : z_g} {Q : q_V → q_S → Prop} {a1 a3 a4 a5 s0 : Int} {da6 : q_V} (h :
    Q (.inl s0) (z_st m g)) :
    z_T 118 55 [.inr (.inr 0), .inl a1, .inr (.inr 66), .inl a3, .inl a4, .inl a5, da6] [.inl s0] (z_st m g) Q := y_wp_T (cd := q_c118) (cs := [3, 9, 15, 17, 25, 27, 35, 49, 50, 55]) (ng := []) (sy := []) rfl 300 55 _ _ _ _ h
theorem y_119P : q_P 119 = (q_c119, 3) := rfl
theorem y_119 {m : z_M} {g : z_g} {Q : q_V → q_S → Prop} {a1 : Int} (h :
    z_C 120 [.inr (.inr 1), .inl a1] (z_st m g) (fun v S => z_T 119 4 [.inr (.inr 0), .inl a1, q_dead] (q_push v []) S Q)) :
    z_C 119 [.inr (.inr 0), .inl a1] (z_st m g) Q := y_C_wp (cs := [4, 26, 29]) (ng := []) (sy := []) (n := 300) y_119P h
theorem y_119_4 {m : z_M} {g : z_g} {Q : q_V → q_S → Prop} {a1 s0 : Int} (h :
    z_ok2 (m 1 3) (6 : Int) ∧
    ((6 : Int) ≤ (m 1 3) →
      Q (.inl (-4 : Int)) (z_st m g)) ∧
    ((m 1 3) < (6 : Int) →
      z_ok s0 ∧
      ((0 : Int) ≤ s0 →
        z_ok s0 ∧
        ((0 : Int) ≤ s0 →
          z_C 103 [.inr (.inr 0), .inl s0] (z_st m g) (fun v S => z_T 119 29 [.inr (.inr 0), .inl a1, .inl s0] (q_push v []) S Q)) ∧
        (s0 < (0 : Int) →
          z_C 22 [.inr (.inr 1), .inl a1] (z_st m g) (fun v S => z_T 119 26 [.inr (.inr 0), .inl a1, .inl s0] (q_push v [.inr (.inr 0)]) S Q))) ∧
      (s0 < (0 : Int) →
        z_ok2 (m 1 1) (6 : Int) ∧
        ((m 1 1) < (6 : Int) →
          z_ok s0 ∧
          ((0 : Int) ≤ s0 →
            z_C 103 [.inr (.inr 0), .inl s0] (z_st m g) (fun v S => z_T 119 29 [.inr (.inr 0), .inl a1, .inl s0] (q_push v []) S Q)) ∧
          (s0 < (0 : Int) →
            z_C 22 [.inr (.inr 1), .inl a1] (z_st m g) (fun v S => z_T 119 26 [.inr (.inr 0), .inl a1, .inl s0] (q_push v [.inr (.inr 0)]) S Q))) ∧
        ((6 : Int) ≤ (m 1 1) →
          Q (.inl (-4 : Int)) (z_st m g))))) :
    z_T 119 4 [.inr (.inr 0), .inl a1, q_dead] [.inl s0] (z_st m g) Q := y_wp_T (cd := q_c119) (cs := [4, 26, 29]) (ng := []) (sy := []) rfl 300 4 _ _ _ _ h
theorem y_119_26 {m : z_M} {g : z_g} {Q : q_V → q_S → Prop} {a1 a2 s0 : Int} (h :
    z_C 103 [.inr (.inr 0), .inl s0] (z_st m g) (fun v S => z_T 119 29 [.inr (.inr 0), .inl a1, .inl a2] (q_push v []) S Q)) :
    z_T 119 26 [.inr (.inr 0), .inl a1, .inl a2] [.inl s0, .inr (.inr 0)] (z_st m g) Q := y_wp_T (cd := q_c119) (cs := [4, 26, 29]) (ng := []) (sy := []) rfl 300 26 _ _ _ _ h
theorem y_119_29 {m : z_M} {g : z_g} {Q : q_V → q_S → Prop} {a1 a2 s0 : Int} (h :
    Q (.inl s0) (z_st m g)) :
    z_T 119 29 [.inr (.inr 0), .inl a1, .inl a2] [.inl s0] (z_st m g) Q := y_wp_T (cd := q_c119) (cs := [4, 26, 29]) (ng := []) (sy := []) rfl 300 29 _ _ _ _ h
theorem y_120P : q_P 120 = (q_c120, 3) := rfl
theorem y_120 {m : z_M} {g : z_g} {Q : q_V → q_S → Prop} {a1 : Int} (h :
    z_T 120 2 [.inr (.inr 1), .inl a1, .inl (0 : Int)] [] (z_st m g) Q) :
    z_C 120 [.inr (.inr 1), .inl a1] (z_st m g) Q := y_C_wp (cs := [2]) (ng := []) (sy := []) (n := 300) y_120P h
theorem y_120_2 {m : z_M} {g : z_g} {Q : q_V → q_S → Prop} {a1 a2 : Int} (h :
    z_ok2 a2 (m 1 1) ∧
    ((m 1 1) ≤ a2 →
      Q (.inl (-1 : Int)) (z_st m g)) ∧
    (a2 < (m 1 1) →
      z_in a2 6 ∧
      z_ok2 (m 2 ((a2).toNat)) a1 ∧
      (¬ (m 2 ((a2).toNat)) = a1 →
        z_T 120 2 [.inr (.inr 1), .inl a1, .inl (a2 + (1 : Int))] [] (z_st m g) Q) ∧
      ((m 2 ((a2).toNat)) = a1 →
        Q (.inl a2) (z_st m g)))) :
    z_T 120 2 [.inr (.inr 1), .inl a1, .inl a2] [] (z_st m g) Q := y_wp_T (cd := q_c120) (cs := [2]) (ng := []) (sy := []) rfl 300 2 _ _ _ _ h
theorem y_121P : q_P 121 = (q_c121, 4) := rfl
theorem y_121 {m : z_M} {g : z_g} {Q : q_V → q_S → Prop} {a1 a2 : Int} (h :
    z_C 45 [.inr (.inr 0), .inl a1] (z_st m g) (fun v S => z_T 121 3 [.inr (.inr 0), .inl a1, .inl a2, q_dead] (q_push v []) S Q)) :
    z_C 121 [.inr (.inr 0), .inl a1, .inl a2] (z_st m g) Q := y_C_wp (cs := [3, 12, 18, 21, 23, 26, 27, 37]) (ng := []) (sy := []) (n := 300) y_121P h
theorem y_121_3 {m : z_M} {g : z_g} {Q : q_V → q_S → Prop} {a1 a2 s0 : Int} (h :
    z_ok s0 ∧
    (¬ s0 = (0 : Int) →
      z_ok a2 ∧
      (a2 < (0 : Int) →
        Q (.inl (-2 : Int)) (z_st m g)) ∧
      ((0 : Int) ≤ a2 →
        z_C 50 [.inr (.inr 1)] (z_st m g) (fun v S => z_T 121 12 [.inr (.inr 0), .inl a1, .inl a2, q_dead] (q_push v [.inl a2]) S Q))) ∧
    (s0 = (0 : Int) →
      Q (.inl (-1 : Int)) (z_st m g))) :
    z_T 121 3 [.inr (.inr 0), .inl a1, .inl a2, q_dead] [.inl s0] (z_st m g) Q := y_wp_T (cd := q_c121) (cs := [3, 12, 18, 21, 23, 26, 27, 37]) (ng := []) (sy := []) rfl 300 3 _ _ _ _ h
theorem y_121_12 {m : z_M} {g : z_g} {Q : q_V → q_S → Prop} {a1 a2 s0 s1 : Int} (h :
    z_ok2 s1 s0 ∧
    (s1 < s0 →
      z_C 49 [.inr (.inr 0), .inl a1] (z_st m g) (fun v S => z_T 121 18 [.inr (.inr 0), .inl a1, .inl a2, q_dead] (q_push v []) S Q)) ∧
    (s0 ≤ s1 →
      Q (.inl (-2 : Int)) (z_st m g))) :
    z_T 121 12 [.inr (.inr 0), .inl a1, .inl a2, q_dead] [.inl s0, .inl s1] (z_st m g) Q := y_wp_T (cd := q_c121) (cs := [3, 12, 18, 21, 23, 26, 27, 37]) (ng := []) (sy := []) rfl 300 12 _ _ _ _ h
theorem y_121_18 {m : z_M} {g : z_g} {Q : q_V → q_S → Prop} {a1 a2 : Int} (h :
    z_C 122 [.inr (.inr 0), .inl a2] (z_st m g) (fun v S => z_T 121 21 [.inr (.inr 0), .inl a1, .inl a2, q_dead] (q_push v []) S Q)) :
    z_T 121 18 [.inr (.inr 0), .inl a1, .inl a2, q_dead] [] (z_st m g) Q := y_wp_T (cd := q_c121) (cs := [3, 12, 18, 21, 23, 26, 27, 37]) (ng := []) (sy := []) rfl 300 18 _ _ _ _ h
theorem y_121_21 {m : z_M} {g : z_g} {Q : q_V → q_S → Prop} {a1 a2 : Int} (h :
    z_C 123 [.inr (.inr 0)] (z_st m g) (fun v S => z_T 121 23 [.inr (.inr 0), .inl a1, .inl a2, q_dead] (q_push v []) S Q)) :
    z_T 121 21 [.inr (.inr 0), .inl a1, .inl a2, q_dead] [] (z_st m g) Q := y_wp_T (cd := q_c121) (cs := [3, 12, 18, 21, 23, 26, 27, 37]) (ng := []) (sy := []) rfl 300 21 _ _ _ _ h
theorem y_121_23 {m : z_M} {g : z_g} {Q : q_V → q_S → Prop} {a1 a2 s0 : Int} (h :
    z_C 19 [.inl s0] (z_st m g) (fun v S => z_T 121 26 [.inr (.inr 0), .inl a1, .inl a2, .inl s0] (q_push v []) S Q)) :
    z_T 121 23 [.inr (.inr 0), .inl a1, .inl a2, q_dead] [.inl s0] (z_st m g) Q := y_wp_T (cd := q_c121) (cs := [3, 12, 18, 21, 23, 26, 27, 37]) (ng := []) (sy := []) rfl 300 23 _ _ _ _ h
theorem y_121_26 {m : z_M} {g : z_g} {Q : q_V → q_S → Prop} {a1 a2 a3 s0 : Int} (h :
    z_C 20 [.inl s0] (z_st m g) (fun v S => z_T 121 27 [.inr (.inr 0), .inl a1, .inl a2, .inl a3] (q_push v []) S Q)) :
    z_T 121 26 [.inr (.inr 0), .inl a1, .inl a2, .inl a3] [.inl s0] (z_st m g) Q := y_wp_T (cd := q_c121) (cs := [3, 12, 18, 21, 23, 26, 27, 37]) (ng := []) (sy := []) rfl 300 26 _ _ _ _ h
theorem y_121_27 {m : z_M} {g : z_g} {Q : q_V → q_S → Prop} {a1 a2 a3 s0 : Int} (h :
    z_ok s0 ∧
    (s0 = (0 : Int) →
      Q (.inl (-3 : Int)) (z_st m g)) ∧
    (¬ s0 = (0 : Int) →
      z_ok (q_bin 7 a3 (13 : Int)) ∧
      ((q_bin 7 a3 (13 : Int)) = (0 : Int) →
        z_C 119 [.inr (.inr 0), .inl a3] (z_st m g) (fun v S => z_T 121 37 [.inr (.inr 0), .inl a1, .inl a2, .inl a3] (q_push v []) S Q)) ∧
      (¬ (q_bin 7 a3 (13 : Int)) = (0 : Int) →
        Q (.inl (-3 : Int)) (z_st m g)))) :
    z_T 121 27 [.inr (.inr 0), .inl a1, .inl a2, .inl a3] [.inl s0] (z_st m g) Q := y_wp_T (cd := q_c121) (cs := [3, 12, 18, 21, 23, 26, 27, 37]) (ng := []) (sy := []) rfl 300 27 _ _ _ _ h
theorem y_121_37 {m : z_M} {g : z_g} {Q : q_V → q_S → Prop} {a1 a2 a3 s0 : Int} (h :
    Q (.inl s0) (z_st m g)) :
    z_T 121 37 [.inr (.inr 0), .inl a1, .inl a2, .inl a3] [.inl s0] (z_st m g) Q := y_wp_T (cd := q_c121) (cs := [3, 12, 18, 21, 23, 26, 27, 37]) (ng := []) (sy := []) rfl 300 37 _ _ _ _ h
theorem y_122P : q_P 122 = (q_c122, 4) := rfl
theorem y_122 {m : z_M} {g : z_g} {Q : q_V → q_S → Prop} {a1 : Int} (h :
    z_C 10 [.inr (.inr 130), .inl (0 : Int)] (z_st m g) (fun v S => z_T 122 4 [.inr (.inr 0), .inl a1, q_dead, q_dead] (q_push v []) S Q)) :
    z_C 122 [.inr (.inr 0), .inl a1] (z_st m g) Q := y_C_wp (cs := [4, 6, 17, 42, 44, 59, 62]) (ng := []) (sy := []) (n := 300) y_122P h
theorem y_122_4 {m : z_M} {g : z_g} {Q : q_V → q_S → Prop} {a1 : Int} (h :
    z_T 122 6 [.inr (.inr 0), .inl a1, .inl (0 : Int), q_dead] [] (z_st m g) Q) :
    z_T 122 4 [.inr (.inr 0), .inl a1, q_dead, q_dead] [] (z_st m g) Q := y_wp_T (cd := q_c122) (cs := [4, 6, 17, 42, 44, 59, 62]) (ng := []) (sy := []) rfl 300 4 _ _ _ _ h
theorem y_122_6 {m : z_M} {g : z_g} {Q : q_V → q_S → Prop} {a1 a2 : Int} {da3 : q_V} (h :
    z_ok2 a2 (m 66 1) ∧
    ((m 66 1) ≤ a2 →
      Q q_dead (z_st m g)) ∧
    (a2 < (m 66 1) →
      z_C 28 [.inr (.inr 66), .inl a2] (z_st m g) (fun v S => z_T 122 17 [.inr (.inr 0), .inl a1, .inl a2, da3] (q_push v []) S Q))) :
    z_T 122 6 [.inr (.inr 0), .inl a1, .inl a2, da3] [] (z_st m g) Q := y_wp_T (cd := q_c122) (cs := [4, 6, 17, 42, 44, 59, 62]) (ng := []) (sy := []) rfl 300 6 _ _ _ _ h
theorem y_122_17 {m : z_M} {g : z_g} {Q : q_V → q_S → Prop} {a1 a2 s0 : Int} {da3 : q_V} (h :
    z_ok2 (s0 + (1 : Int)) (14 : Int) ∧
    ((14 : Int) ≤ (s0 + (1 : Int)) →
      z_T 122 6 [.inr (.inr 0), .inl a1, .inl (a2 + (1 : Int)), .inl s0] [] (z_st m g) Q) ∧
    ((s0 + (1 : Int)) < (14 : Int) →
      z_in (s0 + (1 : Int)) 14 ∧
      z_C 67 [.inr (.inr 65), .inl a2] (z_st m g) (fun v S => z_T 122 42 [.inr (.inr 0), .inl a1, .inl a2, .inl s0] (q_push v [.inl (m 130 ((s0 + (1 : Int)).toNat)), .inr (.inr 29), .inl (s0 + (1 : Int)), .inr (.inr 130)]) S Q))) :
    z_T 122 17 [.inr (.inr 0), .inl a1, .inl a2, da3] [.inl s0] (z_st m g) Q := y_wp_T (cd := q_c122) (cs := [4, 6, 17, 42, 44, 59, 62]) (ng := []) (sy := []) rfl 300 17 _ _ _ _ h
theorem y_122_42 {m : z_M} {g : z_g} {Q : q_V → q_S → Prop} {a1 a2 a3 s0 s1 s3 : Int} (h :
    z_C 52 [.inr (.inr 29), .inl (s1 + s0)] (z_st m g) (fun v S => z_T 122 44 [.inr (.inr 0), .inl a1, .inl a2, .inl a3] (q_push v [.inl s3, .inr (.inr 130)]) S Q)) :
    z_T 122 42 [.inr (.inr 0), .inl a1, .inl a2, .inl a3] [.inl s0, .inl s1, .inr (.inr 29), .inl s3, .inr (.inr 130)] (z_st m g) Q := y_wp_T (cd := q_c122) (cs := [4, 6, 17, 42, 44, 59, 62]) (ng := []) (sy := []) rfl 300 42 _ _ _ _ h
theorem y_122_44 {m : z_M} {g : z_g} {Q : q_V → q_S → Prop} {a1 a2 a3 s0 s1 : Int} (h :
    z_in s1 14 ∧
    z_in a3 14 ∧
    z_C 67 [.inr (.inr 65), .inl a2] (z_st (q_upd m 130 ((s1).toNat) s0) g) (fun v S => z_T 122 59 [.inr (.inr 0), .inl a1, .inl a2, .inl a3] (q_push v [.inl a1, .inl ((q_upd m 130 ((s1).toNat) s0) 130 ((a3).toNat)), .inr (.inr 29), .inl a3, .inr (.inr 130)]) S Q)) :
    z_T 122 44 [.inr (.inr 0), .inl a1, .inl a2, .inl a3] [.inl s0, .inl s1, .inr (.inr 130)] (z_st m g) Q := y_wp_T (cd := q_c122) (cs := [4, 6, 17, 42, 44, 59, 62]) (ng := []) (sy := []) rfl 300 44 _ _ _ _ h
theorem y_122_59 {m : z_M} {g : z_g} {Q : q_V → q_S → Prop} {a1 a2 a3 s0 s1 s2 s4 : Int} (h :
    z_C 52 [.inr (.inr 29), .inl (s2 - (s1 * s0))] (z_st m g) (fun v S => z_T 122 62 [.inr (.inr 0), .inl a1, .inl a2, .inl a3] (q_push v [.inl s4, .inr (.inr 130)]) S Q)) :
    z_T 122 59 [.inr (.inr 0), .inl a1, .inl a2, .inl a3] [.inl s0, .inl s1, .inl s2, .inr (.inr 29), .inl s4, .inr (.inr 130)] (z_st m g) Q := y_wp_T (cd := q_c122) (cs := [4, 6, 17, 42, 44, 59, 62]) (ng := []) (sy := []) rfl 300 59 _ _ _ _ h
theorem y_122_62 {m : z_M} {g : z_g} {Q : q_V → q_S → Prop} {a1 a2 a3 s0 s1 : Int} (h :
    z_in s1 14 ∧
    z_T 122 6 [.inr (.inr 0), .inl a1, .inl (a2 + (1 : Int)), .inl a3] [] (z_st (q_upd m 130 ((s1).toNat) s0) g) Q) :
    z_T 122 62 [.inr (.inr 0), .inl a1, .inl a2, .inl a3] [.inl s0, .inl s1, .inr (.inr 130)] (z_st m g) Q := y_wp_T (cd := q_c122) (cs := [4, 6, 17, 42, 44, 59, 62]) (ng := []) (sy := []) rfl 300 62 _ _ _ _ h
theorem y_123P : q_P 123 = (q_c123, 3) := rfl
theorem y_123 {m : z_M} {g : z_g} {Q : q_V → q_S → Prop} (h :
    z_T 123 4 [.inr (.inr 0), .inl (0 : Int), .inl (0 : Int)] [] (z_st m g) Q) :
    z_C 123 [.inr (.inr 0)] (z_st m g) Q := y_C_wp (cs := [4]) (ng := []) (sy := []) (n := 300) y_123P h
theorem y_123_4 {m : z_M} {g : z_g} {Q : q_V → q_S → Prop} {a1 a2 : Int} (h :
    z_ok2 a2 (14 : Int) ∧
    ((14 : Int) ≤ a2 →
      Q (.inl a1) (z_st m g)) ∧
    (a2 < (14 : Int) →
      z_in a2 14 ∧
      z_ok (m 130 ((a2).toNat)) ∧
      ((m 130 ((a2).toNat)) = (0 : Int) →
        z_T 123 4 [.inr (.inr 0), .inl a1, .inl (a2 + (1 : Int))] [] (z_st m g) Q) ∧
      (¬ (m 130 ((a2).toNat)) = (0 : Int) →
        z_T 123 4 [.inr (.inr 0), .inl (q_bin 4 a1 (q_bin 6 (1 : Int) a2)), .inl (a2 + (1 : Int))] [] (z_st m g) Q))) :
    z_T 123 4 [.inr (.inr 0), .inl a1, .inl a2] [] (z_st m g) Q := y_wp_T (cd := q_c123) (cs := [4]) (ng := []) (sy := []) rfl 300 4 _ _ _ _ h
theorem y_124P : q_P 124 = (q_c124, 3) := rfl
theorem y_124 {m : z_M} {g : z_g} {Q : q_V → q_S → Prop} {a1 a2 : Int} (h :
    z_C 24 [.inr (.inr 0), .inl a1] (z_st m g) (fun v S => z_T 124 3 [.inr (.inr 0), .inl a1, .inl a2] (q_push v []) S Q)) :
    z_C 124 [.inr (.inr 0), .inl a1, .inl a2] (z_st m g) Q := y_C_wp (cs := [3, 17, 22, 31, 32, 40, 44, 47]) (ng := []) (sy := []) (n := 300) y_124P h
theorem y_124_3 {m : z_M} {g : z_g} {Q : q_V → q_S → Prop} {a1 a2 s0 : Int} (h :
    z_ok s0 ∧
    (s0 = (0 : Int) →
      Q (.inl (-1 : Int)) (z_st m g)) ∧
    (¬ s0 = (0 : Int) →
      z_ok a2 ∧
      (a2 < (0 : Int) →
        Q (.inl (-1 : Int)) (z_st m g)) ∧
      ((0 : Int) ≤ a2 →
        z_ok2 a2 (1 : Int) ∧
        (a2 ≤ (1 : Int) →
          z_in a1 6 ∧
          z_C 19 [.inl (m 2 ((a1).toNat))] (z_st m g) (fun v S => z_T 124 17 [.inr (.inr 0), .inl a1, .inl a2] (q_push v []) S Q)) ∧
        ((1 : Int) < a2 →
          Q (.inl (-1 : Int)) (z_st m g))))) :
    z_T 124 3 [.inr (.inr 0), .inl a1, .inl a2] [.inl s0] (z_st m g) Q := y_wp_T (cd := q_c124) (cs := [3, 17, 22, 31, 32, 40, 44, 47]) (ng := []) (sy := []) rfl 300 3 _ _ _ _ h
theorem y_124_17 {m : z_M} {g : z_g} {Q : q_V → q_S → Prop} {a1 a2 s0 : Int} (h :
    z_ok2 s0 (3 : Int) ∧
    (¬ s0 = (3 : Int) →
      Q (.inl (-3 : Int)) (z_st m g)) ∧
    (s0 = (3 : Int) →
      z_C 50 [.inr (.inr 1)] (z_st m g) (fun v S => z_T 124 22 [.inr (.inr 0), .inl a1, .inl a2] (q_push v []) S Q))) :
    z_T 124 17 [.inr (.inr 0), .inl a1, .inl a2] [.inl s0] (z_st m g) Q := y_wp_T (cd := q_c124) (cs := [3, 17, 22, 31, 32, 40, 44, 47]) (ng := []) (sy := []) rfl 300 17 _ _ _ _ h
theorem y_124_22 {m : z_M} {g : z_g} {Q : q_V → q_S → Prop} {a1 a2 s0 : Int} (h :
    z_ok2 s0 (13 : Int) ∧
    (s0 ≤ (13 : Int) →
      z_C 50 [.inr (.inr 1)] (z_st m g) (fun v S => z_T 124 31 [.inr (.inr 0), .inl a1, .inl a2] (q_push v [.inr (.inr 29)]) S Q)) ∧
    ((13 : Int) < s0 →
      Q (.inl (-3 : Int)) (z_st m g))) :
    z_T 124 22 [.inr (.inr 0), .inl a1, .inl a2] [.inl s0] (z_st m g) Q := y_wp_T (cd := q_c124) (cs := [3, 17, 22, 31, 32, 40, 44, 47]) (ng := []) (sy := []) rfl 300 22 _ _ _ _ h
theorem y_124_31 {m : z_M} {g : z_g} {Q : q_V → q_S → Prop} {a1 a2 s0 : Int} (h :
    z_C 51 [.inr (.inr 29), .inl s0] (z_st m g) (fun v S => z_T 124 32 [.inr (.inr 0), .inl a1, .inl a2] (q_push v []) S Q)) :
    z_T 124 31 [.inr (.inr 0), .inl a1, .inl a2] [.inl s0, .inr (.inr 29)] (z_st m g) Q := y_wp_T (cd := q_c124) (cs := [3, 17, 22, 31, 32, 40, 44, 47]) (ng := []) (sy := []) rfl 300 31 _ _ _ _ h
theorem y_124_32 {m : z_M} {g : z_g} {Q : q_V → q_S → Prop} {a1 a2 : Int} (h :
    z_in a1 6 ∧
    z_C 56 [.inr (.inr 65), .inl (m 2 ((a1).toNat))] (z_st m g) (fun v S => z_T 124 40 [.inr (.inr 0), .inl a1, .inl a2] (q_push v []) S Q)) :
    z_T 124 32 [.inr (.inr 0), .inl a1, .inl a2] [] (z_st m g) Q := y_wp_T (cd := q_c124) (cs := [3, 17, 22, 31, 32, 40, 44, 47]) (ng := []) (sy := []) rfl 300 32 _ _ _ _ h
theorem y_124_40 {m : z_M} {g : z_g} {Q : q_V → q_S → Prop} {a1 a2 : Int} (h :
    z_ok a2 ∧
    (¬ a2 = (0 : Int) →
      z_C 127 [.inr (.inr 0)] (z_st m g) (fun v S => z_T 124 47 [.inr (.inr 0), .inl a1, .inl a2] (q_push v []) S Q)) ∧
    (a2 = (0 : Int) →
      z_C 125 [.inr (.inr 0)] (z_st m g) (fun v S => z_T 124 44 [.inr (.inr 0), .inl a1, .inl a2] (q_push v []) S Q))) :
    z_T 124 40 [.inr (.inr 0), .inl a1, .inl a2] [] (z_st m g) Q := y_wp_T (cd := q_c124) (cs := [3, 17, 22, 31, 32, 40, 44, 47]) (ng := []) (sy := []) rfl 300 40 _ _ _ _ h
theorem y_124_44 {m : z_M} {g : z_g} {Q : q_V → q_S → Prop} {a1 a2 s0 : Int} (h :
    z_T 124 47 [.inr (.inr 0), .inl a1, .inl a2] [.inl s0] (z_st m g) Q) :
    z_T 124 44 [.inr (.inr 0), .inl a1, .inl a2] [.inl s0] (z_st m g) Q := y_wp_T (cd := q_c124) (cs := [3, 17, 22, 31, 32, 40, 44, 47]) (ng := []) (sy := []) rfl 300 44 _ _ _ _ h
theorem y_124_47 {m : z_M} {g : z_g} {Q : q_V → q_S → Prop} {a1 a2 s0 : Int} (h :
    Q (.inl s0) (z_st m g)) :
    z_T 124 47 [.inr (.inr 0), .inl a1, .inl a2] [.inl s0] (z_st m g) Q := y_wp_T (cd := q_c124) (cs := [3, 17, 22, 31, 32, 40, 44, 47]) (ng := []) (sy := []) rfl 300 47 _ _ _ _ h
theorem y_125P : q_P 125 = (q_c125, 4) := rfl
theorem y_125 {m : z_M} {g : z_g} {Q : q_V → q_S → Prop} (h :
    z_T 125 4 [.inr (.inr 0), .inl (0 : Int), .inl (1 : Int), q_dead] [] (z_st m g) Q) :
    z_C 125 [.inr (.inr 0)] (z_st m g) Q := y_C_wp (cs := [4, 11, 22, 23]) (ng := []) (sy := []) (n := 300) y_125P h
theorem y_125_4 {m : z_M} {g : z_g} {Q : q_V → q_S → Prop} {a1 a2 : Int} {da3 : q_V} (h :
    z_ok2 a2 (m 29 0) ∧
    ((m 29 0) ≤ a2 →
      Q (.inl a1) (z_st m g)) ∧
    (a2 < (m 29 0) →
      z_T 125 11 [.inr (.inr 0), .inl a1, .inl a2, .inl (1 : Int)] [] (z_st m g) Q)) :
    z_T 125 4 [.inr (.inr 0), .inl a1, .inl a2, da3] [] (z_st m g) Q := y_wp_T (cd := q_c125) (cs := [4, 11, 22, 23]) (ng := []) (sy := []) rfl 300 4 _ _ _ _ h
theorem y_125_11 {m : z_M} {g : z_g} {Q : q_V → q_S → Prop} {a1 a2 a3 : Int} (h :
    z_ok2 a3 (m 29 0) ∧
    ((m 29 0) ≤ a3 →
      z_T 125 4 [.inr (.inr 0), .inl a1, .inl (a2 + (1 : Int)), .inl a3] [] (z_st m g) Q) ∧
    (a3 < (m 29 0) →
      z_C 126 [.inr (.inr 65), .inl a2, .inl a3] (z_st m g) (fun v S => z_T 125 22 [.inr (.inr 0), .inl a1, .inl a2, .inl a3] (q_push v [.inl a1]) S Q))) :
    z_T 125 11 [.inr (.inr 0), .inl a1, .inl a2, .inl a3] [] (z_st m g) Q := y_wp_T (cd := q_c125) (cs := [4, 11, 22, 23]) (ng := []) (sy := []) rfl 300 11 _ _ _ _ h
theorem y_125_22 {m : z_M} {g : z_g} {Q : q_V → q_S → Prop} {a1 a2 a3 s0 s1 : Int} (h :
    z_C 19 [.inl s0] (z_st m g) (fun v S => z_T 125 23 [.inr (.inr 0), .inl a1, .inl a2, .inl a3] (q_push v [.inl s1]) S Q)) :
    z_T 125 22 [.inr (.inr 0), .inl a1, .inl a2, .inl a3] [.inl s0, .inl s1] (z_st m g) Q := y_wp_T (cd := q_c125) (cs := [4, 11, 22, 23]) (ng := []) (sy := []) rfl 300 22 _ _ _ _ h
theorem y_125_23 {m : z_M} {g : z_g} {Q : q_V → q_S → Prop} {a1 a2 a3 s0 s1 : Int} (h :
    z_T 125 11 [.inr (.inr 0), .inl (s1 + s0), .inl a2, .inl (a3 + (1 : Int))] [] (z_st m g) Q) :
    z_T 125 23 [.inr (.inr 0), .inl a1, .inl a2, .inl a3] [.inl s0, .inl s1] (z_st m g) Q := y_wp_T (cd := q_c125) (cs := [4, 11, 22, 23]) (ng := []) (sy := []) rfl 300 23 _ _ _ _ h
theorem y_126P : q_P 126 = (q_c126, 6) := rfl
theorem y_126 {m : z_M} {g : z_g} {Q : q_V → q_S → Prop} {a1 a2 : Int} (h :
    z_in (0 : Int) 6 ∧
    z_in (1 : Int) 6 ∧
    z_T 126 14 [.inr (.inr 65), .inl a1, .inl a2, .inl (0 : Int), .inl (1 : Int), q_dead] [] (z_st (q_upd (q_upd m 68 0 a1) 68 1 a2) g) Q) :
    z_C 126 [.inr (.inr 65), .inl a1, .inl a2] (z_st m g) Q := y_C_wp (cs := [14, 33, 34, 35, 44, 47, 56]) (ng := []) (sy := []) (n := 300) y_126P h
theorem y_126_14 {m : z_M} {g : z_g} {Q : q_V → q_S → Prop} {a1 a2 a3 a4 : Int} {da5 : q_V} (h :
    z_ok2 a4 (m 29 0) ∧
    ((m 29 0) ≤ a4 →
      Q (.inl a3) (z_st m g)) ∧
    (a4 < (m 29 0) →
      z_in (2 : Int) 6 ∧
      z_C 28 [.inr (.inr 66), .inl (2 : Int)] (z_st (q_upd m 68 2 (0 : Int)) g) (fun v S => z_T 126 33 [.inr (.inr 65), .inl a1, .inl a2, .inl a3, .inl a4, da5] (q_push v [.inl a4, .inr (.inr 29), .inr (.inr 29)]) S Q))) :
    z_T 126 14 [.inr (.inr 65), .inl a1, .inl a2, .inl a3, .inl a4, da5] [] (z_st m g) Q := y_wp_T (cd := q_c126) (cs := [14, 33, 34, 35, 44, 47, 56]) (ng := []) (sy := []) rfl 300 14 _ _ _ _ h
theorem y_126_33 {m : z_M} {g : z_g} {Q : q_V → q_S → Prop} {a1 a2 a3 a4 s0 s1 : Int} {da5 : q_V} (h :
    z_C 101 [.inr (.inr 29), .inl s1, .inl s0] (z_st m g) (fun v S => z_T 126 34 [.inr (.inr 65), .inl a1, .inl a2, .inl a3, .inl a4, da5] (q_push v [.inr (.inr 29)]) S Q)) :
    z_T 126 33 [.inr (.inr 65), .inl a1, .inl a2, .inl a3, .inl a4, da5] [.inl s0, .inl s1, .inr (.inr 29), .inr (.inr 29)] (z_st m g) Q := y_wp_T (cd := q_c126) (cs := [14, 33, 34, 35, 44, 47, 56]) (ng := []) (sy := []) rfl 300 33 _ _ _ _ h
theorem y_126_34 {m : z_M} {g : z_g} {Q : q_V → q_S → Prop} {a1 a2 a3 a4 s0 : Int} {da5 : q_V} (h :
    z_C 72 [.inr (.inr 29), .inl s0] (z_st m g) (fun v S => z_T 126 35 [.inr (.inr 65), .inl a1, .inl a2, .inl a3, .inl a4, da5] (q_push v []) S Q)) :
    z_T 126 34 [.inr (.inr 65), .inl a1, .inl a2, .inl a3, .inl a4, da5] [.inl s0, .inr (.inr 29)] (z_st m g) Q := y_wp_T (cd := q_c126) (cs := [14, 33, 34, 35, 44, 47, 56]) (ng := []) (sy := []) rfl 300 34 _ _ _ _ h
theorem y_126_35 {m : z_M} {g : z_g} {Q : q_V → q_S → Prop} {a1 a2 a3 a4 s0 : Int} {da5 : q_V} (h :
    z_C 60 [.inr (.inr 65), .inl a4] (z_st m g) (fun v S => z_T 126 44 [.inr (.inr 65), .inl a1, .inl a2, .inl a3, .inl a4, .inl s0] (q_push v [.inr (.inr 29), .inl (2 : Int), .inr (.inr 68)]) S Q)) :
    z_T 126 35 [.inr (.inr 65), .inl a1, .inl a2, .inl a3, .inl a4, da5] [.inl s0] (z_st m g) Q := y_wp_T (cd := q_c126) (cs := [14, 33, 34, 35, 44, 47, 56]) (ng := []) (sy := []) rfl 300 35 _ _ _ _ h
theorem y_126_44 {m : z_M} {g : z_g} {Q : q_V → q_S → Prop} {a1 a2 a3 a4 a5 s0 s2 : Int} (h :
    z_C 68 [.inr (.inr 29), .inl (-s0), .inl a5] (z_st m g) (fun v S => z_T 126 47 [.inr (.inr 65), .inl a1, .inl a2, .inl a3, .inl a4, .inl a5] (q_push v [.inl s2, .inr (.inr 68)]) S Q)) :
    z_T 126 44 [.inr (.inr 65), .inl a1, .inl a2, .inl a3, .inl a4, .inl a5] [.inl s0, .inr (.inr 29), .inl s2, .inr (.inr 68)] (z_st m g) Q := y_wp_T (cd := q_c126) (cs := [14, 33, 34, 35, 44, 47, 56]) (ng := []) (sy := []) rfl 300 44 _ _ _ _ h
theorem y_126_47 {m : z_M} {g : z_g} {Q : q_V → q_S → Prop} {a1 a2 a3 a4 a5 s0 s1 : Int} (h :
    z_in s1 6 ∧
    z_in (2 : Int) 6 ∧
    z_ok ((q_upd m 68 ((s1).toNat) s0) 68 2) ∧
    (((q_upd m 68 ((s1).toNat) s0) 68 2) = (0 : Int) →
      z_T 126 14 [.inr (.inr 65), .inl a1, .inl a2, .inl a3, .inl (a4 + (1 : Int)), .inl a5] [] (z_st (q_upd m 68 ((s1).toNat) s0) g) Q) ∧
    (¬ ((q_upd m 68 ((s1).toNat) s0) 68 2) = (0 : Int) →
      z_C 64 [.inr (.inr 65), .inl a4] (z_st (q_upd m 68 ((s1).toNat) s0) g) (fun v S => z_T 126 56 [.inr (.inr 65), .inl a1, .inl a2, .inl a3, .inl a4, .inl a5] (q_push v []) S Q))) :
    z_T 126 47 [.inr (.inr 65), .inl a1, .inl a2, .inl a3, .inl a4, .inl a5] [.inl s0, .inl s1, .inr (.inr 68)] (z_st m g) Q := y_wp_T (cd := q_c126) (cs := [14, 33, 34, 35, 44, 47, 56]) (ng := []) (sy := []) rfl 300 47 _ _ _ _ h
theorem y_126_56 {m : z_M} {g : z_g} {Q : q_V → q_S → Prop} {a1 a2 a3 a4 a5 s0 : Int} (h :
    z_ok s0 ∧
    (¬ s0 = (0 : Int) →
      z_T 126 14 [.inr (.inr 65), .inl a1, .inl a2, .inl a3, .inl (a4 + (1 : Int)), .inl a5] [] (z_st m g) Q) ∧
    (s0 = (0 : Int) →
      z_in (2 : Int) 6 ∧
      z_T 126 14 [.inr (.inr 65), .inl a1, .inl a2, .inl (q_bin 4 a3 (q_bin 6 (1 : Int) (m 68 2))), .inl (a4 + (1 : Int)), .inl a5] [] (z_st m g) Q)) :
    z_T 126 56 [.inr (.inr 65), .inl a1, .inl a2, .inl a3, .inl a4, .inl a5] [.inl s0] (z_st m g) Q := y_wp_T (cd := q_c126) (cs := [14, 33, 34, 35, 44, 47, 56]) (ng := []) (sy := []) rfl 300 56 _ _ _ _ h
theorem y_127P : q_P 127 = (q_c127, 4) := rfl
theorem y_127 {m : z_M} {g : z_g} {Q : q_V → q_S → Prop} (h :
    z_T 127 2 [.inr (.inr 0), .inl (1 : Int), q_dead, q_dead] [] (z_st m g) Q) :
    z_C 127 [.inr (.inr 0)] (z_st m g) Q := y_C_wp (cs := [2, 9, 19, 31]) (ng := []) (sy := []) (n := 300) y_127P h
theorem y_127_2 {m : z_M} {g : z_g} {Q : q_V → q_S → Prop} {a1 : Int} {da2 da3 : q_V} (h :
    z_ok2 a1 (m 29 0) ∧
    ((m 29 0) ≤ a1 →
      Q (.inl (-5 : Int)) (z_st m g)) ∧
    (a1 < (m 29 0) →
      z_T 127 9 [.inr (.inr 0), .inl a1, .inl (1 : Int), da3] [] (z_st m g) Q)) :
    z_T 127 2 [.inr (.inr 0), .inl a1, da2, da3] [] (z_st m g) Q := y_wp_T (cd := q_c127) (cs := [2, 9, 19, 31]) (ng := []) (sy := []) rfl 300 2 _ _ _ _ h
theorem y_127_9 {m : z_M} {g : z_g} {Q : q_V → q_S → Prop} {a1 a2 : Int} {da3 : q_V} (h :
    z_ok2 a2 (m 29 0) ∧
    ((m 29 0) ≤ a2 →
      z_T 127 2 [.inr (.inr 0), .inl (a1 + (1 : Int)), .inl a2, da3] [] (z_st m g) Q) ∧
    (a2 < (m 29 0) →
      z_C 126 [.inr (.inr 65), .inl a1, .inl a2] (z_st m g) (fun v S => z_T 127 19 [.inr (.inr 0), .inl a1, .inl a2, da3] (q_push v []) S Q))) :
    z_T 127 9 [.inr (.inr 0), .inl a1, .inl a2, da3] [] (z_st m g) Q := y_wp_T (cd := q_c127) (cs := [2, 9, 19, 31]) (ng := []) (sy := []) rfl 300 9 _ _ _ _ h
theorem y_127_19 {m : z_M} {g : z_g} {Q : q_V → q_S → Prop} {a1 a2 s0 : Int} {da3 : q_V} (h :
    z_ok s0 ∧
    (s0 = (0 : Int) →
      z_T 127 9 [.inr (.inr 0), .inl a1, .inl (a2 + (1 : Int)), .inl s0] [] (z_st m g) Q) ∧
    (¬ s0 = (0 : Int) →
      z_C 128 [.inl s0] (z_st m g) (fun v S => z_T 127 31 [.inr (.inr 0), .inl a1, .inl a2, .inl s0] (q_push v [.inl (((10000 : Int) * a1) + ((100 : Int) * a2))]) S Q))) :
    z_T 127 19 [.inr (.inr 0), .inl a1, .inl a2, da3] [.inl s0] (z_st m g) Q := y_wp_T (cd := q_c127) (cs := [2, 9, 19, 31]) (ng := []) (sy := []) rfl 300 19 _ _ _ _ h
theorem y_127_31 {m : z_M} {g : z_g} {Q : q_V → q_S → Prop} {a1 a2 a3 s0 s1 : Int} (h :
    Q (.inl (s1 + s0)) (z_st m g)) :
    z_T 127 31 [.inr (.inr 0), .inl a1, .inl a2, .inl a3] [.inl s0, .inl s1] (z_st m g) Q := y_wp_T (cd := q_c127) (cs := [2, 9, 19, 31]) (ng := []) (sy := []) rfl 300 31 _ _ _ _ h
theorem y_128P : q_P 128 = (q_c128, 2) := rfl
theorem y_128 {m : z_M} {g : z_g} {Q : q_V → q_S → Prop} {a0 : Int} (h :
    z_T 128 2 [.inl a0, .inl (0 : Int)] [] (z_st m g) Q) :
    z_C 128 [.inl a0] (z_st m g) Q := y_C_wp (cs := [2]) (ng := []) (sy := []) (n := 300) y_128P h
theorem y_128_2 {m : z_M} {g : z_g} {Q : q_V → q_S → Prop} {a0 a1 : Int} (h :
    z_ok2 a1 (32 : Int) ∧
    ((32 : Int) ≤ a1 →
      Q (.inl (-5 : Int)) (z_st m g)) ∧
    (a1 < (32 : Int) →
      z_ok2 (q_bin 3 (q_bin 7 a0 a1) (1 : Int)) (1 : Int) ∧
      (¬ (q_bin 3 (q_bin 7 a0 a1) (1 : Int)) = (1 : Int) →
        z_T 128 2 [.inl a0, .inl (a1 + (1 : Int))] [] (z_st m g) Q) ∧
      ((q_bin 3 (q_bin 7 a0 a1) (1 : Int)) = (1 : Int) →
        Q (.inl a1) (z_st m g)))) :
    z_T 128 2 [.inl a0, .inl a1] [] (z_st m g) Q := y_wp_T (cd := q_c128) (cs := [2]) (ng := []) (sy := []) rfl 300 2 _ _ _ _ h
theorem y_129P : q_P 129 = (q_c129, 9) := rfl
theorem y_129 {m : z_M} {g : z_g} {Q : q_V → q_S → Prop} {a1 : Int} (h :
    z_C 45 [.inr (.inr 0), .inl a1] (z_st m g) (fun v S => z_T 129 3 [.inr (.inr 0), .inl a1, q_dead, q_dead, q_dead, q_dead, q_dead, q_dead, q_dead] (q_push v []) S Q)) :
    z_C 129 [.inr (.inr 0), .inl a1] (z_st m g) Q := y_C_wp (cs := [3, 9, 15, 27, 31, 34, 49, 57, 59, 65, 67, 68, 69, 77, 84, 90, 92, 93, 94, 109]) (ng := []) (sy := []) (n := 300) y_129P h
theorem y_129_3 {m : z_M} {g : z_g} {Q : q_V → q_S → Prop} {a1 s0 : Int} (h :
    z_ok s0 ∧
    (¬ s0 = (0 : Int) →
      z_C 49 [.inr (.inr 0), .inl a1] (z_st m g) (fun v S => z_T 129 9 [.inr (.inr 0), .inl a1, q_dead, q_dead, q_dead, q_dead, q_dead, q_dead, q_dead] (q_push v []) S Q)) ∧
    (s0 = (0 : Int) →
      Q (.inl (-1 : Int)) (z_st m g))) :
    z_T 129 3 [.inr (.inr 0), .inl a1, q_dead, q_dead, q_dead, q_dead, q_dead, q_dead, q_dead] [.inl s0] (z_st m g) Q := y_wp_T (cd := q_c129) (cs := [3, 9, 15, 27, 31, 34, 49, 57, 59, 65, 67, 68, 69, 77, 84, 90, 92, 93, 94, 109]) (ng := []) (sy := []) rfl 300 3 _ _ _ _ h
theorem y_129_9 {m : z_M} {g : z_g} {Q : q_V → q_S → Prop} {a1 : Int} (h :
    z_C 30 [.inr (.inr 66)] (z_st m g) (fun v S => z_T 129 15 [.inr (.inr 0), .inl a1, .inr (.inr 66), q_dead, q_dead, q_dead, q_dead, q_dead, q_dead] (q_push v []) S Q)) :
    z_T 129 9 [.inr (.inr 0), .inl a1, q_dead, q_dead, q_dead, q_dead, q_dead, q_dead, q_dead] [] (z_st m g) Q := y_wp_T (cd := q_c129) (cs := [3, 9, 15, 27, 31, 34, 49, 57, 59, 65, 67, 68, 69, 77, 84, 90, 92, 93, 94, 109]) (ng := []) (sy := []) rfl 300 9 _ _ _ _ h
theorem y_129_15 {m : z_M} {g : z_g} {Q : q_V → q_S → Prop} {a1 s0 : Int} (h :
    z_ok2 (m 66 1) (3 : Int) ∧
    (¬ (m 66 1) = (3 : Int) →
      Q (.inl (-3 : Int)) (z_st m g)) ∧
    ((m 66 1) = (3 : Int) →
      z_ok2 s0 (1 : Int) ∧
      ((1 : Int) ≤ s0 →
        z_C 32 [.inr (.inr 66)] (z_st m g) (fun v S => z_T 129 27 [.inr (.inr 0), .inl a1, .inr (.inr 66), .inl s0, q_dead, q_dead, q_dead, q_dead, q_dead] (q_push v []) S Q)) ∧
      (s0 < (1 : Int) →
        Q (.inl (-3 : Int)) (z_st m g)))) :
    z_T 129 15 [.inr (.inr 0), .inl a1, .inr (.inr 66), q_dead, q_dead, q_dead, q_dead, q_dead, q_dead] [.inl s0] (z_st m g) Q := y_wp_T (cd := q_c129) (cs := [3, 9, 15, 27, 31, 34, 49, 57, 59, 65, 67, 68, 69, 77, 84, 90, 92, 93, 94, 109]) (ng := []) (sy := []) rfl 300 15 _ _ _ _ h
theorem y_129_27 {m : z_M} {g : z_g} {Q : q_V → q_S → Prop} {a1 a3 s0 : Int} (h :
    z_C 28 [.inr (.inr 66), .inl (1 : Int)] (z_st m g) (fun v S => z_T 129 31 [.inr (.inr 0), .inl a1, .inr (.inr 66), .inl a3, .inl s0, q_dead, q_dead, q_dead, q_dead] (q_push v []) S Q)) :
    z_T 129 27 [.inr (.inr 0), .inl a1, .inr (.inr 66), .inl a3, q_dead, q_dead, q_dead, q_dead, q_dead] [.inl s0] (z_st m g) Q := y_wp_T (cd := q_c129) (cs := [3, 9, 15, 27, 31, 34, 49, 57, 59, 65, 67, 68, 69, 77, 84, 90, 92, 93, 94, 109]) (ng := []) (sy := []) rfl 300 27 _ _ _ _ h
theorem y_129_31 {m : z_M} {g : z_g} {Q : q_V → q_S → Prop} {a1 a3 a4 s0 : Int} (h :
    z_C 28 [.inr (.inr 66), .inl (0 : Int)] (z_st m g) (fun v S => z_T 129 34 [.inr (.inr 0), .inl a1, .inr (.inr 66), .inl a3, .inl a4, q_dead, q_dead, q_dead, q_dead] (q_push v [.inl s0]) S Q)) :
    z_T 129 31 [.inr (.inr 0), .inl a1, .inr (.inr 66), .inl a3, .inl a4, q_dead, q_dead, q_dead, q_dead] [.inl s0] (z_st m g) Q := y_wp_T (cd := q_c129) (cs := [3, 9, 15, 27, 31, 34, 49, 57, 59, 65, 67, 68, 69, 77, 84, 90, 92, 93, 94, 109]) (ng := []) (sy := []) rfl 300 31 _ _ _ _ h
theorem y_129_34 {m : z_M} {g : z_g} {Q : q_V → q_S → Prop} {a1 a3 a4 s0 s1 : Int} (h :
    z_dv (s1 - s0) a3 ∧
    z_C 130 [.inr (.inr 29), .inl a4, .inl a4] (z_st m g) (fun v S => z_T 129 49 [.inr (.inr 0), .inl a1, .inr (.inr 66), .inl a3, .inl a4, .inl ((s1 - s0) / a3), .inl (a4 - ((s1 - s0) / a3)), q_dead, q_dead] (q_push v [.inr (.inr 29)]) S Q)) :
    z_T 129 34 [.inr (.inr 0), .inl a1, .inr (.inr 66), .inl a3, .inl a4, q_dead, q_dead, q_dead, q_dead] [.inl s0, .inl s1] (z_st m g) Q := y_wp_T (cd := q_c129) (cs := [3, 9, 15, 27, 31, 34, 49, 57, 59, 65, 67, 68, 69, 77, 84, 90, 92, 93, 94, 109]) (ng := []) (sy := []) rfl 300 34 _ _ _ _ h
theorem y_129_49 {m : z_M} {g : z_g} {Q : q_V → q_S → Prop} {a1 a3 a4 a5 a6 s0 : Int} (h :
    z_C 67 [.inr (.inr 65), .inl (2 : Int)] (z_st m g) (fun v S => z_T 129 57 [.inr (.inr 0), .inl a1, .inr (.inr 66), .inl a3, .inl a4, .inl a5, .inl a6, q_dead, q_dead] (q_push v [.inr (.inr 29), .inr (.inr 29), .inl s0, .inr (.inr 29)]) S Q)) :
    z_T 129 49 [.inr (.inr 0), .inl a1, .inr (.inr 66), .inl a3, .inl a4, .inl a5, .inl a6, q_dead, q_dead] [.inl s0, .inr (.inr 29)] (z_st m g) Q := y_wp_T (cd := q_c129) (cs := [3, 9, 15, 27, 31, 34, 49, 57, 59, 65, 67, 68, 69, 77, 84, 90, 92, 93, 94, 109]) (ng := []) (sy := []) rfl 300 49 _ _ _ _ h
theorem y_129_57 {m : z_M} {g : z_g} {Q : q_V → q_S → Prop} {a1 a3 a4 a5 a6 s0 s3 : Int} (h :
    z_C 130 [.inr (.inr 29), .inl s0, .inl a5] (z_st m g) (fun v S => z_T 129 59 [.inr (.inr 0), .inl a1, .inr (.inr 66), .inl a3, .inl a4, .inl a5, .inl a6, q_dead, q_dead] (q_push v [.inr (.inr 29), .inl s3, .inr (.inr 29)]) S Q)) :
    z_T 129 57 [.inr (.inr 0), .inl a1, .inr (.inr 66), .inl a3, .inl a4, .inl a5, .inl a6, q_dead, q_dead] [.inl s0, .inr (.inr 29), .inr (.inr 29), .inl s3, .inr (.inr 29)] (z_st m g) Q := y_wp_T (cd := q_c129) (cs := [3, 9, 15, 27, 31, 34, 49, 57, 59, 65, 67, 68, 69, 77, 84, 90, 92, 93, 94, 109]) (ng := []) (sy := []) rfl 300 57 _ _ _ _ h
theorem y_129_59 {m : z_M} {g : z_g} {Q : q_V → q_S → Prop} {a1 a3 a4 a5 a6 s0 s2 : Int} (h :
    z_C 67 [.inr (.inr 65), .inl (0 : Int)] (z_st m g) (fun v S => z_T 129 65 [.inr (.inr 0), .inl a1, .inr (.inr 66), .inl a3, .inl a4, .inl a5, .inl a6, q_dead, q_dead] (q_push v [.inr (.inr 29), .inl s0, .inr (.inr 29), .inl s2, .inr (.inr 29)]) S Q)) :
    z_T 129 59 [.inr (.inr 0), .inl a1, .inr (.inr 66), .inl a3, .inl a4, .inl a5, .inl a6, q_dead, q_dead] [.inl s0, .inr (.inr 29), .inl s2, .inr (.inr 29)] (z_st m g) Q := y_wp_T (cd := q_c129) (cs := [3, 9, 15, 27, 31, 34, 49, 57, 59, 65, 67, 68, 69, 77, 84, 90, 92, 93, 94, 109]) (ng := []) (sy := []) rfl 300 59 _ _ _ _ h
theorem y_129_65 {m : z_M} {g : z_g} {Q : q_V → q_S → Prop} {a1 a3 a4 a5 a6 s0 s2 s4 : Int} (h :
    z_C 130 [.inr (.inr 29), .inl s0, .inl a6] (z_st m g) (fun v S => z_T 129 67 [.inr (.inr 0), .inl a1, .inr (.inr 66), .inl a3, .inl a4, .inl a5, .inl a6, q_dead, q_dead] (q_push v [.inl s2, .inr (.inr 29), .inl s4, .inr (.inr 29)]) S Q)) :
    z_T 129 65 [.inr (.inr 0), .inl a1, .inr (.inr 66), .inl a3, .inl a4, .inl a5, .inl a6, q_dead, q_dead] [.inl s0, .inr (.inr 29), .inl s2, .inr (.inr 29), .inl s4, .inr (.inr 29)] (z_st m g) Q := y_wp_T (cd := q_c129) (cs := [3, 9, 15, 27, 31, 34, 49, 57, 59, 65, 67, 68, 69, 77, 84, 90, 92, 93, 94, 109]) (ng := []) (sy := []) rfl 300 65 _ _ _ _ h
theorem y_129_67 {m : z_M} {g : z_g} {Q : q_V → q_S → Prop} {a1 a3 a4 a5 a6 s0 s1 s3 : Int} (h :
    z_C 68 [.inr (.inr 29), .inl s1, .inl s0] (z_st m g) (fun v S => z_T 129 68 [.inr (.inr 0), .inl a1, .inr (.inr 66), .inl a3, .inl a4, .inl a5, .inl a6, q_dead, q_dead] (q_push v [.inl s3, .inr (.inr 29)]) S Q)) :
    z_T 129 67 [.inr (.inr 0), .inl a1, .inr (.inr 66), .inl a3, .inl a4, .inl a5, .inl a6, q_dead, q_dead] [.inl s0, .inl s1, .inr (.inr 29), .inl s3, .inr (.inr 29)] (z_st m g) Q := y_wp_T (cd := q_c129) (cs := [3, 9, 15, 27, 31, 34, 49, 57, 59, 65, 67, 68, 69, 77, 84, 90, 92, 93, 94, 109]) (ng := []) (sy := []) rfl 300 67 _ _ _ _ h
theorem y_129_68 {m : z_M} {g : z_g} {Q : q_V → q_S → Prop} {a1 a3 a4 a5 a6 s0 s1 : Int} (h :
    z_C 68 [.inr (.inr 29), .inl s1, .inl s0] (z_st m g) (fun v S => z_T 129 69 [.inr (.inr 0), .inl a1, .inr (.inr 66), .inl a3, .inl a4, .inl a5, .inl a6, q_dead, q_dead] (q_push v []) S Q)) :
    z_T 129 68 [.inr (.inr 0), .inl a1, .inr (.inr 66), .inl a3, .inl a4, .inl a5, .inl a6, q_dead, q_dead] [.inl s0, .inl s1, .inr (.inr 29)] (z_st m g) Q := y_wp_T (cd := q_c129) (cs := [3, 9, 15, 27, 31, 34, 49, 57, 59, 65, 67, 68, 69, 77, 84, 90, 92, 93, 94, 109]) (ng := []) (sy := []) rfl 300 68 _ _ _ _ h
theorem y_129_69 {m : z_M} {g : z_g} {Q : q_V → q_S → Prop} {a1 a3 a4 a5 a6 s0 : Int} (h :
    z_C 130 [.inr (.inr 29), .inl a6, .inl a6] (z_st m g) (fun v S => z_T 129 77 [.inr (.inr 0), .inl a1, .inr (.inr 66), .inl a3, .inl a4, .inl a5, .inl a6, .inl s0, q_dead] (q_push v [.inr (.inr 29)]) S Q)) :
    z_T 129 69 [.inr (.inr 0), .inl a1, .inr (.inr 66), .inl a3, .inl a4, .inl a5, .inl a6, q_dead, q_dead] [.inl s0] (z_st m g) Q := y_wp_T (cd := q_c129) (cs := [3, 9, 15, 27, 31, 34, 49, 57, 59, 65, 67, 68, 69, 77, 84, 90, 92, 93, 94, 109]) (ng := []) (sy := []) rfl 300 69 _ _ _ _ h
theorem y_129_77 {m : z_M} {g : z_g} {Q : q_V → q_S → Prop} {a1 a3 a4 a5 a6 a7 s0 : Int} (h :
    z_C 130 [.inr (.inr 29), .inl a5, .inl a5] (z_st m g) (fun v S => z_T 129 84 [.inr (.inr 0), .inl a1, .inr (.inr 66), .inl a3, .inl a4, .inl a5, .inl a6, .inl a7, q_dead] (q_push v [.inr (.inr 29), .inl s0, .inr (.inr 29)]) S Q)) :
    z_T 129 77 [.inr (.inr 0), .inl a1, .inr (.inr 66), .inl a3, .inl a4, .inl a5, .inl a6, .inl a7, q_dead] [.inl s0, .inr (.inr 29)] (z_st m g) Q := y_wp_T (cd := q_c129) (cs := [3, 9, 15, 27, 31, 34, 49, 57, 59, 65, 67, 68, 69, 77, 84, 90, 92, 93, 94, 109]) (ng := []) (sy := []) rfl 300 77 _ _ _ _ h
theorem y_129_84 {m : z_M} {g : z_g} {Q : q_V → q_S → Prop} {a1 a3 a4 a5 a6 a7 s0 s2 : Int} (h :
    z_C 67 [.inr (.inr 65), .inl (1 : Int)] (z_st m g) (fun v S => z_T 129 90 [.inr (.inr 0), .inl a1, .inr (.inr 66), .inl a3, .inl a4, .inl a5, .inl a6, .inl a7, q_dead] (q_push v [.inr (.inr 29), .inl s0, .inr (.inr 29), .inl s2, .inr (.inr 29)]) S Q)) :
    z_T 129 84 [.inr (.inr 0), .inl a1, .inr (.inr 66), .inl a3, .inl a4, .inl a5, .inl a6, .inl a7, q_dead] [.inl s0, .inr (.inr 29), .inl s2, .inr (.inr 29)] (z_st m g) Q := y_wp_T (cd := q_c129) (cs := [3, 9, 15, 27, 31, 34, 49, 57, 59, 65, 67, 68, 69, 77, 84, 90, 92, 93, 94, 109]) (ng := []) (sy := []) rfl 300 84 _ _ _ _ h
theorem y_129_90 {m : z_M} {g : z_g} {Q : q_V → q_S → Prop} {a1 a3 a4 a5 a6 a7 s0 s2 s4 : Int} (h :
    z_C 130 [.inr (.inr 29), .inl s0, .inl a4] (z_st m g) (fun v S => z_T 129 92 [.inr (.inr 0), .inl a1, .inr (.inr 66), .inl a3, .inl a4, .inl a5, .inl a6, .inl a7, q_dead] (q_push v [.inl s2, .inr (.inr 29), .inl s4, .inr (.inr 29)]) S Q)) :
    z_T 129 90 [.inr (.inr 0), .inl a1, .inr (.inr 66), .inl a3, .inl a4, .inl a5, .inl a6, .inl a7, q_dead] [.inl s0, .inr (.inr 29), .inl s2, .inr (.inr 29), .inl s4, .inr (.inr 29)] (z_st m g) Q := y_wp_T (cd := q_c129) (cs := [3, 9, 15, 27, 31, 34, 49, 57, 59, 65, 67, 68, 69, 77, 84, 90, 92, 93, 94, 109]) (ng := []) (sy := []) rfl 300 90 _ _ _ _ h
theorem y_129_92 {m : z_M} {g : z_g} {Q : q_V → q_S → Prop} {a1 a3 a4 a5 a6 a7 s0 s1 s3 : Int} (h :
    z_C 68 [.inr (.inr 29), .inl s1, .inl s0] (z_st m g) (fun v S => z_T 129 93 [.inr (.inr 0), .inl a1, .inr (.inr 66), .inl a3, .inl a4, .inl a5, .inl a6, .inl a7, q_dead] (q_push v [.inl s3, .inr (.inr 29)]) S Q)) :
    z_T 129 92 [.inr (.inr 0), .inl a1, .inr (.inr 66), .inl a3, .inl a4, .inl a5, .inl a6, .inl a7, q_dead] [.inl s0, .inl s1, .inr (.inr 29), .inl s3, .inr (.inr 29)] (z_st m g) Q := y_wp_T (cd := q_c129) (cs := [3, 9, 15, 27, 31, 34, 49, 57, 59, 65, 67, 68, 69, 77, 84, 90, 92, 93, 94, 109]) (ng := []) (sy := []) rfl 300 92 _ _ _ _ h
theorem y_129_93 {m : z_M} {g : z_g} {Q : q_V → q_S → Prop} {a1 a3 a4 a5 a6 a7 s0 s1 : Int} (h :
    z_C 68 [.inr (.inr 29), .inl s1, .inl s0] (z_st m g) (fun v S => z_T 129 94 [.inr (.inr 0), .inl a1, .inr (.inr 66), .inl a3, .inl a4, .inl a5, .inl a6, .inl a7, q_dead] (q_push v []) S Q)) :
    z_T 129 93 [.inr (.inr 0), .inl a1, .inr (.inr 66), .inl a3, .inl a4, .inl a5, .inl a6, .inl a7, q_dead] [.inl s0, .inl s1, .inr (.inr 29)] (z_st m g) Q := y_wp_T (cd := q_c129) (cs := [3, 9, 15, 27, 31, 34, 49, 57, 59, 65, 67, 68, 69, 77, 84, 90, 92, 93, 94, 109]) (ng := []) (sy := []) rfl 300 93 _ _ _ _ h
theorem y_129_94 {m : z_M} {g : z_g} {Q : q_V → q_S → Prop} {a1 a3 a4 a5 a6 a7 s0 : Int} (h :
    z_dv a4 (2 : Int) ∧
    z_ok (a4 % (2 : Int)) ∧
    (¬ (a4 % (2 : Int)) = (0 : Int) →
      z_C 52 [.inr (.inr 29), .inl (a7 + s0)] (z_st m g) (fun v S => z_T 129 109 [.inr (.inr 0), .inl a1, .inr (.inr 66), .inl a3, .inl a4, .inl a5, .inl a6, .inl a7, .inl s0] (q_push v []) S Q)) ∧
    ((a4 % (2 : Int)) = (0 : Int) →
      z_C 52 [.inr (.inr 29), .inl (a7 - s0)] (z_st m g) (fun v S => z_T 129 109 [.inr (.inr 0), .inl a1, .inr (.inr 66), .inl a3, .inl a4, .inl a5, .inl a6, .inl a7, .inl s0] (q_push v []) S Q))) :
    z_T 129 94 [.inr (.inr 0), .inl a1, .inr (.inr 66), .inl a3, .inl a4, .inl a5, .inl a6, .inl a7, q_dead] [.inl s0] (z_st m g) Q := y_wp_T (cd := q_c129) (cs := [3, 9, 15, 27, 31, 34, 49, 57, 59, 65, 67, 68, 69, 77, 84, 90, 92, 93, 94, 109]) (ng := []) (sy := []) rfl 300 94 _ _ _ _ h
theorem y_129_109 {m : z_M} {g : z_g} {Q : q_V → q_S → Prop} {a1 a3 a4 a5 a6 a7 a8 s0 : Int} (h :
    Q (.inl s0) (z_st m g)) :
    z_T 129 109 [.inr (.inr 0), .inl a1, .inr (.inr 66), .inl a3, .inl a4, .inl a5, .inl a6, .inl a7, .inl a8] [.inl s0] (z_st m g) Q := y_wp_T (cd := q_c129) (cs := [3, 9, 15, 27, 31, 34, 49, 57, 59, 65, 67, 68, 69, 77, 84, 90, 92, 93, 94, 109]) (ng := []) (sy := []) rfl 300 109 _ _ _ _ h
theorem y_130P : q_P 130 = (q_c130, 3) := rfl
theorem y_130 {m : z_M} {g : z_g} {Q : q_V → q_S → Prop} {a1 a2 : Int} (h :
    z_C 52 [.inr (.inr 29), .inl a1] (z_st m g) (fun v S => z_T 130 4 [.inr (.inr 29), .inl a1, .inl a2] (q_push v [.inr (.inr 29)]) S Q)) :
    z_C 130 [.inr (.inr 29), .inl a1, .inl a2] (z_st m g) Q := y_C_wp (cs := [4, 6]) (ng := []) (sy := []) (n := 300) y_130P h
theorem y_130_4 {m : z_M} {g : z_g} {Q : q_V → q_S → Prop} {a1 a2 s0 : Int} (h :
    z_C 101 [.inr (.inr 29), .inl s0, .inl a2] (z_st m g) (fun v S => z_T 130 6 [.inr (.inr 29), .inl a1, .inl a2] (q_push v []) S Q)) :
    z_T 130 4 [.inr (.inr 29), .inl a1, .inl a2] [.inl s0, .inr (.inr 29)] (z_st m g) Q := y_wp_T (cd := q_c130) (cs := [4, 6]) (ng := []) (sy := []) rfl 300 4 _ _ _ _ h
theorem y_130_6 {m : z_M} {g : z_g} {Q : q_V → q_S → Prop} {a1 a2 s0 : Int} (h :
    Q (.inl s0) (z_st m g)) :
    z_T 130 6 [.inr (.inr 29), .inl a1, .inl a2] [.inl s0] (z_st m g) Q := y_wp_T (cd := q_c130) (cs := [4, 6]) (ng := []) (sy := []) rfl 300 6 _ _ _ _ h
theorem y_131P : q_P 131 = (q_c131, 10) := rfl
theorem y_131 {m : z_M} {g : z_g} {Q : q_V → q_S → Prop} {a1 a2 a3 : Int} (h :
    z_C 45 [.inr (.inr 0), .inl a1] (z_st m g) (fun v S => z_T 131 3 [.inr (.inr 0), .inl a1, .inl a2, .inl a3, q_dead, q_dead, q_dead, q_dead, q_dead, q_dead] (q_push v []) S Q)) :
    z_C 131 [.inr (.inr 0), .inl a1, .inl a2, .inl a3] (z_st m g) Q := y_C_wp (cs := [3, 20, 24, 32, 36]) (ng := []) (sy := []) (n := 300) y_131P h
theorem y_131_3 {m : z_M} {g : z_g} {Q : q_V → q_S → Prop} {a1 a2 a3 s0 : Int} (h :
    z_ok s0 ∧
    (s0 = (0 : Int) →
      Q (.inr (.inl (-9223372036854775808 : Int))) (z_st m g)) ∧
    (¬ s0 = (0 : Int) →
      z_ok2 a2 (2 : Int) ∧
      (a2 < (2 : Int) →
        Q (.inr (.inl (-9223372036854775808 : Int))) (z_st m g)) ∧
      ((2 : Int) ≤ a2 →
        z_ok2 a2 (20 : Int) ∧
        ((20 : Int) < a2 →
          Q (.inr (.inl (-9223372036854775808 : Int))) (z_st m g)) ∧
        (a2 ≤ (20 : Int) →
          z_ok a3 ∧
          (a3 < (0 : Int) →
            Q (.inr (.inl (-9223372036854775808 : Int))) (z_st m g)) ∧
          ((0 : Int) ≤ a3 →
            z_ok2 a3 (1 : Int) ∧
            (a3 ≤ (1 : Int) →
              z_C 49 [.inr (.inr 0), .inl a1] (z_st m g) (fun v S => z_T 131 20 [.inr (.inr 0), .inl a1, .inl a2, .inl a3, q_dead, q_dead, q_dead, q_dead, q_dead, q_dead] (q_push v []) S Q)) ∧
            ((1 : Int) < a3 →
              Q (.inr (.inl (-9223372036854775808 : Int))) (z_st m g))))))) :
    z_T 131 3 [.inr (.inr 0), .inl a1, .inl a2, .inl a3, q_dead, q_dead, q_dead, q_dead, q_dead, q_dead] [.inl s0] (z_st m g) Q := y_wp_T (cd := q_c131) (cs := [3, 20, 24, 32, 36]) (ng := []) (sy := []) rfl 300 3 _ _ _ _ h
theorem y_131_20 {m : z_M} {g : z_g} {Q : q_V → q_S → Prop} {a1 a2 a3 : Int} (h :
    z_C 132 [.inr (.inr 65), .inl a2] (z_st m g) (fun v S => z_T 131 24 [.inr (.inr 0), .inl a1, .inl a2, .inl a3, q_dead, q_dead, q_dead, q_dead, q_dead, q_dead] (q_push v []) S Q)) :
    z_T 131 20 [.inr (.inr 0), .inl a1, .inl a2, .inl a3, q_dead, q_dead, q_dead, q_dead, q_dead, q_dead] [] (z_st m g) Q := y_wp_T (cd := q_c131) (cs := [3, 20, 24, 32, 36]) (ng := []) (sy := []) rfl 300 20 _ _ _ _ h
theorem y_131_24 {m : z_M} {g : z_g} {Q : q_V → q_S → Prop} {a1 a2 a3 s0 : Int} (h :
    z_ok a2 ∧
    z_C 134 [.inr (.inl a2), .inl (m 66 1)] (z_st m g) (fun v S => z_T 131 32 [.inr (.inr 0), .inl a1, .inl a2, .inl a3, .inr (.inl s0), q_dead, q_dead, q_dead, q_dead, q_dead] (q_push v []) S Q)) :
    z_T 131 24 [.inr (.inr 0), .inl a1, .inl a2, .inl a3, q_dead, q_dead, q_dead, q_dead, q_dead, q_dead] [.inr (.inl s0)] (z_st m g) Q := y_wp_T (cd := q_c131) (cs := [3, 20, 24, 32, 36]) (ng := []) (sy := []) rfl 300 24 _ _ _ _ h
theorem y_131_32 {m : z_M} {g : z_g} {Q : q_V → q_S → Prop} {a1 a2 a3 a4 s0 : Int} (h :
    z_C 31 [.inr (.inl a4), .inr (.inl s0)] (z_st m g) (fun v S => z_T 131 36 [.inr (.inr 0), .inl a1, .inl a2, .inl a3, .inr (.inl a4), q_dead, .inr (.inl s0), q_dead, q_dead, q_dead] (q_push v []) S Q)) :
    z_T 131 32 [.inr (.inr 0), .inl a1, .inl a2, .inl a3, .inr (.inl a4), q_dead, q_dead, q_dead, q_dead, q_dead] [.inr (.inl s0)] (z_st m g) Q := y_wp_T (cd := q_c131) (cs := [3, 20, 24, 32, 36]) (ng := []) (sy := []) rfl 300 32 _ _ _ _ h
theorem y_131_36 {m : z_M} {g : z_g} {Q : q_V → q_S → Prop} {a1 a2 a3 a4 a6 s0 : Int} (h :
    z_okl2 s0 (1 : Int) ∧
    z_ok (if s0 < (1 : Int) then (-1 : Int) else if s0 = (1 : Int) then 0 else 1) ∧
    ((0 : Int) ≤ (if s0 < (1 : Int) then (-1 : Int) else if s0 = (1 : Int) then 0 else 1) →
      z_ok a3 ∧
      (¬ a3 = (0 : Int) →
        z_dl a6 s0 ∧
        Q (.inr (.inl (a6 / s0))) (z_st m g)) ∧
      (a3 = (0 : Int) →
        z_dl a4 s0 ∧
        Q (.inr (.inl (a4 / s0))) (z_st m g))) ∧
    ((if s0 < (1 : Int) then (-1 : Int) else if s0 = (1 : Int) then 0 else 1) < (0 : Int) →
      Q (.inr (.inl (-9223372036854775808 : Int))) (z_st m g))) :
    z_T 131 36 [.inr (.inr 0), .inl a1, .inl a2, .inl a3, .inr (.inl a4), q_dead, .inr (.inl a6), q_dead, q_dead, q_dead] [.inr (.inl s0)] (z_st m g) Q := y_wp_T (cd := q_c131) (cs := [3, 20, 24, 32, 36]) (ng := []) (sy := []) rfl 300 36 _ _ _ _ h
theorem y_132P : q_P 132 = (q_c132, 6) := rfl
theorem y_132 {m : z_M} {g : z_g} {Q : q_V → q_S → Prop} {a1 : Int} (h :
    (0 ≤ (6 : Int) ∧ 0 ≤ (0 : Int) ∧ 0 ≤ (0 : Int) ∧ (0 : Int) + (6 : Int) ≤ ((6 : Nat) : Int) ∧ (0 : Int) + (6 : Int) ≤ ((6 : Nat) : Int)) ∧
    z_T 132 12 [.inr (.inr 65), .inl a1, .inr (.inl (0 : Int)), q_dead, .inl (0 : Int), q_dead] [] (z_st (q_cpy m 68 (((0 : Int)).toNat) 69 (((0 : Int)).toNat) (((6 : Int)).toNat)) g) Q) :
    z_C 132 [.inr (.inr 65), .inl a1] (z_st m g) Q := y_C_wp (cs := [12, 21, 47, 55, 56]) (ng := []) (sy := []) (n := 300) y_132P h
theorem y_132_12 {m : z_M} {g : z_g} {Q : q_V → q_S → Prop} {a1 a2 a4 : Int} {da5 : q_V} (h :
    z_ok2 a4 (q_bin 6 (1 : Int) (m 66 1)) ∧
    ((q_bin 6 (1 : Int) (m 66 1)) ≤ a4 →
      Q (.inr (.inl a2)) (z_st m g)) ∧
    (a4 < (q_bin 6 (1 : Int) (m 66 1)) →
      z_T 132 21 [.inr (.inr 65), .inl a1, .inr (.inl a2), q_dead, .inl a4, .inl (0 : Int)] [] (z_st m g) Q)) :
    z_T 132 12 [.inr (.inr 65), .inl a1, .inr (.inl a2), q_dead, .inl a4, da5] [] (z_st m g) Q := y_wp_T (cd := q_c132) (cs := [12, 21, 47, 55, 56]) (ng := []) (sy := []) rfl 300 12 _ _ _ _ h
theorem y_132_21 {m : z_M} {g : z_g} {Q : q_V → q_S → Prop} {a1 a2 a4 a5 : Int} (h :
    z_ok2 a5 (m 66 1) ∧
    ((m 66 1) ≤ a5 →
      z_C 133 [.inr (.inr 65)] (z_st m g) (fun v S => z_T 132 47 [.inr (.inr 65), .inl a1, .inr (.inl a2), q_dead, .inl a4, .inl a5] (q_push v []) S Q)) ∧
    (a5 < (m 66 1) →
      z_ok2 (q_bin 3 (q_bin 7 a4 a5) (1 : Int)) (1 : Int) ∧
      (¬ (q_bin 3 (q_bin 7 a4 a5) (1 : Int)) = (1 : Int) →
        z_in a5 6 ∧
        z_T 132 21 [.inr (.inr 65), .inl a1, .inr (.inl a2), q_dead, .inl a4, .inl (a5 + (1 : Int))] [] (z_st (q_upd m 68 ((a5).toNat) (0 : Int)) g) Q) ∧
      ((q_bin 3 (q_bin 7 a4 a5) (1 : Int)) = (1 : Int) →
        z_in a5 6 ∧
        z_in a5 6 ∧
        z_T 132 21 [.inr (.inr 65), .inl a1, .inr (.inl a2), q_dead, .inl a4, .inl (a5 + (1 : Int))] [] (z_st (q_upd m 68 ((a5).toNat) (m 69 ((a5).toNat))) g) Q))) :
    z_T 132 21 [.inr (.inr 65), .inl a1, .inr (.inl a2), q_dead, .inl a4, .inl a5] [] (z_st m g) Q := y_wp_T (cd := q_c132) (cs := [12, 21, 47, 55, 56]) (ng := []) (sy := []) rfl 300 21 _ _ _ _ h
theorem y_132_47 {m : z_M} {g : z_g} {Q : q_V → q_S → Prop} {a1 a2 a4 a5 s0 : Int} (h :
    z_ok s0 ∧
    (s0 = (0 : Int) →
      z_T 132 12 [.inr (.inr 65), .inl a1, .inr (.inl a2), q_dead, .inl (a4 + (1 : Int)), .inl a5] [] (z_st m g) Q) ∧
    (¬ s0 = (0 : Int) →
      z_ok (a1 - (1 : Int)) ∧
      z_C 19 [.inl a4] (z_st m g) (fun v S => z_T 132 55 [.inr (.inr 65), .inl a1, .inr (.inl a2), q_dead, .inl a4, .inl a5] (q_push v [.inr (.inl (a1 - (1 : Int))), .inr (.inl a2)]) S Q))) :
    z_T 132 47 [.inr (.inr 65), .inl a1, .inr (.inl a2), q_dead, .inl a4, .inl a5] [.inl s0] (z_st m g) Q := y_wp_T (cd := q_c132) (cs := [12, 21, 47, 55, 56]) (ng := []) (sy := []) rfl 300 47 _ _ _ _ h
theorem y_132_55 {m : z_M} {g : z_g} {Q : q_V → q_S → Prop} {a1 a2 a4 a5 s0 s1 s2 : Int} (h :
    z_C 134 [.inr (.inl s1), .inl s0] (z_st m g) (fun v S => z_T 132 56 [.inr (.inr 65), .inl a1, .inr (.inl a2), q_dead, .inl a4, .inl a5] (q_push v [.inr (.inl s2)]) S Q)) :
    z_T 132 55 [.inr (.inr 65), .inl a1, .inr (.inl a2), q_dead, .inl a4, .inl a5] [.inl s0, .inr (.inl s1), .inr (.inl s2)] (z_st m g) Q := y_wp_T (cd := q_c132) (cs := [12, 21, 47, 55, 56]) (ng := []) (sy := []) rfl 300 55 _ _ _ _ h
theorem y_132_56 {m : z_M} {g : z_g} {Q : q_V → q_S → Prop} {a1 a2 a4 a5 s0 s1 : Int} (h :
    z_T 132 12 [.inr (.inr 65), .inl a1, .inr (.inl (s1 + s0)), q_dead, .inl (a4 + (1 : Int)), .inl a5] [] (z_st m g) Q) :
    z_T 132 56 [.inr (.inr 65), .inl a1, .inr (.inl a2), q_dead, .inl a4, .inl a5] [.inr (.inl s0), .inr (.inl s1)] (z_st m g) Q := y_wp_T (cd := q_c132) (cs := [12, 21, 47, 55, 56]) (ng := []) (sy := []) rfl 300 56 _ _ _ _ h
theorem y_133P : q_P 133 = (q_c133, 2) := rfl
theorem y_133 {m : z_M} {g : z_g} {Q : q_V → q_S → Prop} (h :
    z_T 133 2 [.inr (.inr 65), .inl (1 : Int)] [] (z_st m g) Q) :
    z_C 133 [.inr (.inr 65)] (z_st m g) Q := y_C_wp (cs := [2, 10]) (ng := []) (sy := []) (n := 300) y_133P h
theorem y_133_2 {m : z_M} {g : z_g} {Q : q_V → q_S → Prop} {a1 : Int} (h :
    z_ok2 a1 (m 29 0) ∧
    ((m 29 0) ≤ a1 →
      Q (.inl (0 : Int)) (z_st m g)) ∧
    (a1 < (m 29 0) →
      z_C 63 [.inr (.inr 65), .inl a1] (z_st m g) (fun v S => z_T 133 10 [.inr (.inr 65), .inl a1] (q_push v []) S Q))) :
    z_T 133 2 [.inr (.inr 65), .inl a1] [] (z_st m g) Q := y_wp_T (cd := q_c133) (cs := [2, 10]) (ng := []) (sy := []) rfl 300 2 _ _ _ _ h
theorem y_133_10 {m : z_M} {g : z_g} {Q : q_V → q_S → Prop} {a1 s0 : Int} (h :
    z_ok s0 ∧
    (s0 = (0 : Int) →
      z_T 133 2 [.inr (.inr 65), .inl (a1 + (1 : Int))] [] (z_st m g) Q) ∧
    (¬ s0 = (0 : Int) →
      Q (.inl (1 : Int)) (z_st m g))) :
    z_T 133 10 [.inr (.inr 65), .inl a1] [.inl s0] (z_st m g) Q := y_wp_T (cd := q_c133) (cs := [2, 10]) (ng := []) (sy := []) rfl 300 10 _ _ _ _ h
theorem y_134P : q_P 134 = (q_c134, 6) := rfl
theorem y_134 {m : z_M} {g : z_g} {Q : q_V → q_S → Prop} {a0 a2 : Int} (h :
    z_T 134 4 [.inr (.inl a0), q_dead, .inl a2, .inr (.inl (1 : Int)), q_dead, .inl (0 : Int)] [] (z_st m g) Q) :
    z_C 134 [.inr (.inl a0), .inl a2] (z_st m g) Q := y_C_wp (cs := [4]) (ng := []) (sy := []) (n := 300) y_134P h
theorem y_134_4 {m : z_M} {g : z_g} {Q : q_V → q_S → Prop} {a0 a2 a3 a5 : Int} (h :
    z_ok2 a5 a2 ∧
    (a2 ≤ a5 →
      Q (.inr (.inl a3)) (z_st m g)) ∧
    (a5 < a2 →
      z_T 134 4 [.inr (.inl a0), q_dead, .inl a2, .inr (.inl (a3 * a0)), q_dead, .inl (a5 + (1 : Int))] [] (z_st m g) Q)) :
    z_T 134 4 [.inr (.inl a0), q_dead, .inl a2, .inr (.inl a3), q_dead, .inl a5] [] (z_st m g) Q := y_wp_T (cd := q_c134) (cs := [4]) (ng := []) (sy := []) rfl 300 4 _ _ _ _ h
theorem y_135P : q_P 135 = (q_c135, 3) := rfl
theorem y_135 {m : z_M} {g : z_g} {Q : q_V → q_S → Prop} {a1 a2 : Int} (h :
    z_ok2 a1 (-1 : Int) ∧
    (¬ a1 = (-1 : Int) →
      z_ok a1 ∧
      (a1 < (0 : Int) →
        Q (.inl (-2 : Int)) (z_st m g)) ∧
      ((0 : Int) ≤ a1 →
        z_ok2 a1 (30 : Int) ∧
        ((30 : Int) < a1 →
          Q (.inl (-2 : Int)) (z_st m g)) ∧
        (a1 ≤ (30 : Int) →
          z_ok a2 ∧
          (a2 < (0 : Int) →
            Q (.inl (-2 : Int)) (z_st m g)) ∧
          ((0 : Int) ≤ a2 →
            z_ok2 a2 (30 : Int) ∧
            (a2 ≤ (30 : Int) →
              z_ok2 (m 1 8) (4 : Int) ∧
              ((m 1 8) < (4 : Int) →
                z_C 136 [.inr (.inr 1), .inl a1, .inl a2] (z_st m g) (fun v S => z_T 135 33 [.inr (.inr 0), .inl a1, .inl a2] (q_push v []) S Q)) ∧
              ((4 : Int) ≤ (m 1 8) →
                Q (.inl (-4 : Int)) (z_st m g))) ∧
            ((30 : Int) < a2 →
              Q (.inl (-2 : Int)) (z_st m g)))))) ∧
    (a1 = (-1 : Int) →
      Q (.inl (0 : Int)) (z_st (q_upd m 1 8 (0 : Int)) g))) :
    z_C 135 [.inr (.inr 0), .inl a1, .inl a2] (z_st m g) Q := y_C_wp (cs := [33]) (ng := []) (sy := []) (n := 300) y_135P h
theorem y_135_33 {m : z_M} {g : z_g} {Q : q_V → q_S → Prop} {a1 a2 s0 : Int} (h :
    Q (.inl s0) (z_st m g)) :
    z_T 135 33 [.inr (.inr 0), .inl a1, .inl a2] [.inl s0] (z_st m g) Q := y_wp_T (cd := q_c135) (cs := [33]) (ng := []) (sy := []) rfl 300 33 _ _ _ _ h
theorem y_136P : q_P 136 = (q_c136, 3) := rfl
theorem y_136 {m : z_M} {g : z_g} {Q : q_V → q_S → Prop} {a1 a2 : Int} (h :
    z_ok2 (m 1 8) (4 : Int) ∧
    ((m 1 8) < (4 : Int) →
      z_in (m 1 8) 4 ∧
      z_in (m 1 8) 4 ∧
      Q (.inl ((m 1 8) + (1 : Int))) (z_st (q_upd (q_upd (q_upd m 13 ((m 1 8).toNat) a1) 14 ((m 1 8).toNat) a2) 1 8 ((m 1 8) + (1 : Int))) g)) ∧
    ((4 : Int) ≤ (m 1 8) →
      Q (.inl (-4 : Int)) (z_st m g))) :
    z_C 136 [.inr (.inr 1), .inl a1, .inl a2] (z_st m g) Q := y_C_wp (cs := []) (ng := []) (sy := []) (n := 300) y_136P h
theorem y_137P : q_P 137 = (q_c137, 8) := rfl
theorem y_137 {m : z_M} {g : z_g} {Q : q_V → q_S → Prop} {a1 a2 a3 : Int} (h :
    z_C 44 [.inr (.inr 0), .inl a1, .inl a2] (z_st m g) (fun v S => z_T 137 4 [.inr (.inr 0), .inl a1, .inl a2, .inl a3, q_dead, q_dead, q_dead, q_dead] (q_push v []) S Q)) :
    z_C 137 [.inr (.inr 0), .inl a1, .inl a2, .inl a3] (z_st m g) Q := y_C_wp (cs := [4, 15, 20, 27, 37, 39]) (ng := []) (sy := []) (n := 300) y_137P h
theorem y_137_4 {m : z_M} {g : z_g} {Q : q_V → q_S → Prop} {a1 a2 a3 s0 : Int} (h :
    z_ok s0 ∧
    (s0 = (0 : Int) →
      Q (.inl (-1 : Int)) (z_st m g)) ∧
    (¬ s0 = (0 : Int) →
      z_ok a3 ∧
      (a3 < (0 : Int) →
        Q (.inl (-1 : Int)) (z_st m g)) ∧
      ((0 : Int) ≤ a3 →
        z_ok2 a3 (1 : Int) ∧
        (a3 ≤ (1 : Int) →
          z_C 49 [.inr (.inr 0), .inl a1] (z_st m g) (fun v S => z_T 137 15 [.inr (.inr 0), .inl a1, .inl a2, .inl a3, q_dead, q_dead, q_dead, q_dead] (q_push v []) S Q)) ∧
        ((1 : Int) < a3 →
          Q (.inl (-1 : Int)) (z_st m g))))) :
    z_T 137 4 [.inr (.inr 0), .inl a1, .inl a2, .inl a3, q_dead, q_dead, q_dead, q_dead] [.inl s0] (z_st m g) Q := y_wp_T (cd := q_c137) (cs := [4, 15, 20, 27, 37, 39]) (ng := []) (sy := []) rfl 300 4 _ _ _ _ h
theorem y_137_15 {m : z_M} {g : z_g} {Q : q_V → q_S → Prop} {a1 a2 a3 : Int} (h :
    z_C 37 [.inr (.inr 66), .inl a2] (z_st m g) (fun v S => z_T 137 20 [.inr (.inr 0), .inl a1, .inl a2, .inl a3, q_dead, q_dead, q_dead, q_dead] (q_push v []) S Q)) :
    z_T 137 15 [.inr (.inr 0), .inl a1, .inl a2, .inl a3, q_dead, q_dead, q_dead, q_dead] [] (z_st m g) Q := y_wp_T (cd := q_c137) (cs := [4, 15, 20, 27, 37, 39]) (ng := []) (sy := []) rfl 300 15 _ _ _ _ h
theorem y_137_20 {m : z_M} {g : z_g} {Q : q_V → q_S → Prop} {a1 a2 a3 s0 : Int} (h :
    z_T 137 27 [.inr (.inr 0), .inl a1, .inl a2, .inl a3, .inl s0, .inl (0 : Int), .inl (-5 : Int), .inl (0 : Int)] [] (z_st m g) Q) :
    z_T 137 20 [.inr (.inr 0), .inl a1, .inl a2, .inl a3, q_dead, q_dead, q_dead, q_dead] [.inl s0] (z_st m g) Q := y_wp_T (cd := q_c137) (cs := [4, 15, 20, 27, 37, 39]) (ng := []) (sy := []) rfl 300 20 _ _ _ _ h
theorem y_137_27 {m : z_M} {g : z_g} {Q : q_V → q_S → Prop} {a1 a2 a3 a4 a5 a6 a7 : Int} (h :
    z_ok2 a7 (m 29 0) ∧
    ((m 29 0) ≤ a7 →
      z_ok a3 ∧
      (¬ a3 = (0 : Int) →
        Q (.inl a6) (z_st m g)) ∧
      (a3 = (0 : Int) →
        Q (.inl a5) (z_st m g))) ∧
    (a7 < (m 29 0) →
      z_C 57 [.inr (.inr 65), .inl a4, .inl a7] (z_st m g) (fun v S => z_T 137 37 [.inr (.inr 0), .inl a1, .inl a2, .inl a3, .inl a4, .inl a5, .inl a6, .inl a7] (q_push v []) S Q))) :
    z_T 137 27 [.inr (.inr 0), .inl a1, .inl a2, .inl a3, .inl a4, .inl a5, .inl a6, .inl a7] [] (z_st m g) Q := y_wp_T (cd := q_c137) (cs := [4, 15, 20, 27, 37, 39]) (ng := []) (sy := []) rfl 300 27 _ _ _ _ h
theorem y_137_37 {m : z_M} {g : z_g} {Q : q_V → q_S → Prop} {a1 a2 a3 a4 a5 a6 a7 : Int} (h :
    z_C 138 [.inr (.inr 0)] (z_st m g) (fun v S => z_T 137 39 [.inr (.inr 0), .inl a1, .inl a2, .inl a3, .inl a4, .inl a5, .inl a6, .inl a7] (q_push v []) S Q)) :
    z_T 137 37 [.inr (.inr 0), .inl a1, .inl a2, .inl a3, .inl a4, .inl a5, .inl a6, .inl a7] [] (z_st m g) Q := y_wp_T (cd := q_c137) (cs := [4, 15, 20, 27, 37, 39]) (ng := []) (sy := []) rfl 300 37 _ _ _ _ h
theorem y_137_39 {m : z_M} {g : z_g} {Q : q_V → q_S → Prop} {a1 a2 a3 a4 a5 a6 a7 s0 : Int} (h :
    z_ok s0 ∧
    (s0 = (0 : Int) →
      z_T 137 27 [.inr (.inr 0), .inl a1, .inl a2, .inl a3, .inl a4, .inl a5, .inl a6, .inl (a7 + (1 : Int))] [] (z_st m g) Q) ∧
    (¬ s0 = (0 : Int) →
      z_ok a5 ∧
      (¬ a5 = (0 : Int) →
        z_T 137 27 [.inr (.inr 0), .inl a1, .inl a2, .inl a3, .inl a4, .inl (a5 + (1 : Int)), .inl a6, .inl (a7 + (1 : Int))] [] (z_st m g) Q) ∧
      (a5 = (0 : Int) →
        z_T 137 27 [.inr (.inr 0), .inl a1, .inl a2, .inl a3, .inl a4, .inl (a5 + (1 : Int)), .inl a7, .inl (a7 + (1 : Int))] [] (z_st m g) Q))) :
    z_T 137 39 [.inr (.inr 0), .inl a1, .inl a2, .inl a3, .inl a4, .inl a5, .inl a6, .inl a7] [.inl s0] (z_st m g) Q := y_wp_T (cd := q_c137) (cs := [4, 15, 20, 27, 37, 39]) (ng := []) (sy := []) rfl 300 39 _ _ _ _ h
theorem y_138P : q_P 138 = (q_c138, 2) := rfl
theorem y_138 {m : z_M} {g : z_g} {Q : q_V → q_S → Prop} (h :
    z_T 138 2 [.inr (.inr 0), .inl (0 : Int)] [] (z_st m g) Q) :
    z_C 138 [.inr (.inr 0)] (z_st m g) Q := y_C_wp (cs := [2, 17, 18, 26]) (ng := []) (sy := []) (n := 300) y_138P h
theorem y_138_2 {m : z_M} {g : z_g} {Q : q_V → q_S → Prop} {a1 : Int} (h :
    z_ok2 a1 (m 1 8) ∧
    ((m 1 8) ≤ a1 →
      Q (.inl (1 : Int)) (z_st m g)) ∧
    (a1 < (m 1 8) →
      z_in a1 4 ∧
      z_C 52 [.inr (.inr 29), .inl (m 13 ((a1).toNat))] (z_st m g) (fun v S => z_T 138 17 [.inr (.inr 0), .inl a1] (q_push v [.inr (.inr 65)]) S Q))) :
    z_T 138 2 [.inr (.inr 0), .inl a1] [] (z_st m g) Q := y_wp_T (cd := q_c138) (cs := [2, 17, 18, 26]) (ng := []) (sy := []) rfl 300 2 _ _ _ _ h
theorem y_138_17 {m : z_M} {g : z_g} {Q : q_V → q_S → Prop} {a1 s0 : Int} (h :
    z_C 60 [.inr (.inr 65), .inl s0] (z_st m g) (fun v S => z_T 138 18 [.inr (.inr 0), .inl a1] (q_push v []) S Q)) :
    z_T 138 17 [.inr (.inr 0), .inl a1] [.inl s0, .inr (.inr 65)] (z_st m g) Q := y_wp_T (cd := q_c138) (cs := [2, 17, 18, 26]) (ng := []) (sy := []) rfl 300 17 _ _ _ _ h
theorem y_138_18 {m : z_M} {g : z_g} {Q : q_V → q_S → Prop} {a1 s0 : Int} (h :
    z_in a1 4 ∧
    z_C 52 [.inr (.inr 29), .inl (m 14 ((a1).toNat))] (z_st m g) (fun v S => z_T 138 26 [.inr (.inr 0), .inl a1] (q_push v [.inl s0]) S Q)) :
    z_T 138 18 [.inr (.inr 0), .inl a1] [.inl s0] (z_st m g) Q := y_wp_T (cd := q_c138) (cs := [2, 17, 18, 26]) (ng := []) (sy := []) rfl 300 18 _ _ _ _ h
theorem y_138_26 {m : z_M} {g : z_g} {Q : q_V → q_S → Prop} {a1 s0 s1 : Int} (h :
    z_ok2 s1 s0 ∧
    (s1 = s0 →
      z_T 138 2 [.inr (.inr 0), .inl (a1 + (1 : Int))] [] (z_st m g) Q) ∧
    (¬ s1 = s0 →
      Q (.inl (0 : Int)) (z_st m g))) :
    z_T 138 26 [.inr (.inr 0), .inl a1] [.inl s0, .inl s1] (z_st m g) Q := y_wp_T (cd := q_c138) (cs := [2, 17, 18, 26]) (ng := []) (sy := []) rfl 300 26 _ _ _ _ h
theorem y_139P : q_P 139 = (q_c139, 8) := rfl
theorem y_139 {m : z_M} {g : z_g} {Q : q_V → q_S → Prop} {a1 a2 a3 : Int} (h :
    z_C 45 [.inr (.inr 0), .inl a1] (z_st m g) (fun v S => z_T 139 3 [.inr (.inr 0), .inl a1, .inl a2, .inl a3, q_dead, q_dead, q_dead, q_dead] (q_push v []) S Q)) :
    z_C 139 [.inr (.inr 0), .inl a1, .inl a2, .inl a3] (z_st m g) Q := y_C_wp (cs := [3, 17, 23, 28, 51, 52, 57]) (ng := []) (sy := []) (n := 300) y_139P h
theorem y_139_3 {m : z_M} {g : z_g} {Q : q_V → q_S → Prop} {a1 a2 a3 s0 : Int} (h :
    z_ok s0 ∧
    (¬ s0 = (0 : Int) →
      z_ok2 a2 (1 : Int) ∧
      (a2 < (1 : Int) →
        Q (.inl (-2 : Int)) (z_st m g)) ∧
      ((1 : Int) ≤ a2 →
        z_ok2 a2 (40 : Int) ∧
        (a2 ≤ (40 : Int) →
          z_C 49 [.inr (.inr 0), .inl a1] (z_st m g) (fun v S => z_T 139 17 [.inr (.inr 0), .inl a1, .inl a2, .inl a3, q_dead, q_dead, q_dead, q_dead] (q_push v []) S Q)) ∧
        ((40 : Int) < a2 →
          Q (.inl (-2 : Int)) (z_st m g)))) ∧
    (s0 = (0 : Int) →
      Q (.inl (-1 : Int)) (z_st m g))) :
    z_T 139 3 [.inr (.inr 0), .inl a1, .inl a2, .inl a3, q_dead, q_dead, q_dead, q_dead] [.inl s0] (z_st m g) Q := y_wp_T (cd := q_c139) (cs := [3, 17, 23, 28, 51, 52, 57]) (ng := []) (sy := []) rfl 300 3 _ _ _ _ h
theorem y_139_17 {m : z_M} {g : z_g} {Q : q_V → q_S → Prop} {a1 a2 a3 : Int} (h :
    z_T 139 23 [.inr (.inr 0), .inl a1, .inl a2, .inl a3, .inl a3, .inl (0 : Int), .inl (0 : Int), q_dead] [] (z_st m g) Q) :
    z_T 139 17 [.inr (.inr 0), .inl a1, .inl a2, .inl a3, q_dead, q_dead, q_dead, q_dead] [] (z_st m g) Q := y_wp_T (cd := q_c139) (cs := [3, 17, 23, 28, 51, 52, 57]) (ng := []) (sy := []) rfl 300 17 _ _ _ _ h
theorem y_139_23 {m : z_M} {g : z_g} {Q : q_V → q_S → Prop} {a1 a2 a3 a4 a5 a6 : Int} {da7 : q_V} (h :
    z_ok2 a6 a2 ∧
    (a2 ≤ a6 →
      Q (.inl a5) (z_st m g)) ∧
    (a6 < a2 →
      z_T 139 28 [.inr (.inr 0), .inl a1, .inl a2, .inl a3, .inl a4, .inl a5, .inl a6, .inl (0 : Int)] [] (z_st m g) Q)) :
    z_T 139 23 [.inr (.inr 0), .inl a1, .inl a2, .inl a3, .inl a4, .inl a5, .inl a6, da7] [] (z_st m g) Q := y_wp_T (cd := q_c139) (cs := [3, 17, 23, 28, 51, 52, 57]) (ng := []) (sy := []) rfl 300 23 _ _ _ _ h
theorem y_139_28 {m : z_M} {g : z_g} {Q : q_V → q_S → Prop} {a1 a2 a3 a4 a5 a6 a7 : Int} (h :
    z_ok2 a7 (m 66 1) ∧
    ((m 66 1) ≤ a7 →
      z_C 133 [.inr (.inr 65)] (z_st m g) (fun v S => z_T 139 57 [.inr (.inr 0), .inl a1, .inl a2, .inl a3, .inl a4, .inl a5, .inl a6, .inl a7] (q_push v []) S Q)) ∧
    (a7 < (m 66 1) →
      z_dv (q_bin 3 ((a4 * (1103515245 : Int)) + (12345 : Int)) (2147483647 : Int)) (65536 : Int) ∧
      z_C 52 [.inr (.inr 29), .inl ((q_bin 3 ((a4 * (1103515245 : Int)) + (12345 : Int)) (2147483647 : Int)) / (65536 : Int))] (z_st m g) (fun v S => z_T 139 51 [.inr (.inr 0), .inl a1, .inl a2, .inl a3, .inl ((a4 * (1103515245 : Int)) + (12345 : Int)), .inl a5, .inl a6, .inl a7] (q_push v [.inl a7, .inr (.inr 65)]) S Q))) :
    z_T 139 28 [.inr (.inr 0), .inl a1, .inl a2, .inl a3, .inl a4, .inl a5, .inl a6, .inl a7] [] (z_st m g) Q := y_wp_T (cd := q_c139) (cs := [3, 17, 23, 28, 51, 52, 57]) (ng := []) (sy := []) rfl 300 28 _ _ _ _ h
theorem y_139_51 {m : z_M} {g : z_g} {Q : q_V → q_S → Prop} {a1 a2 a3 a4 a5 a6 a7 s0 s1 : Int} (h :
    z_C 57 [.inr (.inr 65), .inl s1, .inl s0] (z_st m g) (fun v S => z_T 139 52 [.inr (.inr 0), .inl a1, .inl a2, .inl a3, .inl a4, .inl a5, .inl a6, .inl a7] (q_push v []) S Q)) :
    z_T 139 51 [.inr (.inr 0), .inl a1, .inl a2, .inl a3, .inl a4, .inl a5, .inl a6, .inl a7] [.inl s0, .inl s1, .inr (.inr 65)] (z_st m g) Q := y_wp_T (cd := q_c139) (cs := [3, 17, 23, 28, 51, 52, 57]) (ng := []) (sy := []) rfl 300 51 _ _ _ _ h
theorem y_139_52 {m : z_M} {g : z_g} {Q : q_V → q_S → Prop} {a1 a2 a3 a4 a5 a6 a7 : Int} (h :
    z_T 139 28 [.inr (.inr 0), .inl a1, .inl a2, .inl a3, .inl a4, .inl a5, .inl a6, .inl (a7 + (1 : Int))] [] (z_st m g) Q) :
    z_T 139 52 [.inr (.inr 0), .inl a1, .inl a2, .inl a3, .inl a4, .inl a5, .inl a6, .inl a7] [] (z_st m g) Q := y_wp_T (cd := q_c139) (cs := [3, 17, 23, 28, 51, 52, 57]) (ng := []) (sy := []) rfl 300 52 _ _ _ _ h
theorem y_139_57 {m : z_M} {g : z_g} {Q : q_V → q_S → Prop} {a1 a2 a3 a4 a5 a6 a7 s0 : Int} (h :
    z_ok s0 ∧
    (s0 = (0 : Int) →
      z_T 139 23 [.inr (.inr 0), .inl a1, .inl a2, .inl a3, .inl a4, .inl a5, .inl (a6 + (1 : Int)), .inl a7] [] (z_st m g) Q) ∧
    (¬ s0 = (0 : Int) →
      z_T 139 23 [.inr (.inr 0), .inl a1, .inl a2, .inl a3, .inl a4, .inl (a5 + (1 : Int)), .inl (a6 + (1 : Int)), .inl a7] [] (z_st m g) Q)) :
    z_T 139 57 [.inr (.inr 0), .inl a1, .inl a2, .inl a3, .inl a4, .inl a5, .inl a6, .inl a7] [.inl s0] (z_st m g) Q := y_wp_T (cd := q_c139) (cs := [3, 17, 23, 28, 51, 52, 57]) (ng := []) (sy := []) rfl 300 57 _ _ _ _ h
