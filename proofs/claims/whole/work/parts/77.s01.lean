/-! segments of the methods (written by wip/whole/segall.py) -/
theorem y_67P : q_P 67 = (q_c67, 2) := rfl
theorem y_67 {m : z_M} {g : z_g} {Q : q_V → q_S → Prop} {a1 : Int} (h :
    z_ok a1 ∧
    (a1 < (0 : Int) →
      Q (.inl (0 : Int)) (z_st m g)) ∧
    ((0 : Int) ≤ a1 →
      z_ok2 a1 (m 66 1) ∧
      (a1 < (m 66 1) →
        z_in a1 6 ∧
        Q (.inl (m 68 ((a1).toNat))) (z_st m g)) ∧
      ((m 66 1) ≤ a1 →
        Q (.inl (0 : Int)) (z_st m g)))) :
    z_C 67 [.inr (.inr 65), .inl a1] (z_st m g) Q := y_C_wp (cs := []) (ng := []) (sy := []) (n := 300) y_67P h
theorem y_68P : q_P 68 = (q_c68, 3) := rfl
theorem y_68 {m : z_M} {g : z_g} {Q : q_V → q_S → Prop} {a1 a2 : Int} (h :
    z_ok2 (m 29 0) (1 : Int) ∧
    ((1 : Int) ≤ (m 29 0) →
      z_C 53 [.inl (a1 * a2), .inl (m 29 0)] (z_st m g) (fun v S => z_T 68 12 [.inr (.inr 29), .inl a1, .inl a2] (q_push v []) S Q)) ∧
    ((m 29 0) < (1 : Int) →
      z_T 68 12 [.inr (.inr 29), .inl a1, .inl a2] [.inl (0 : Int)] (z_st m g) Q)) :
    z_C 68 [.inr (.inr 29), .inl a1, .inl a2] (z_st m g) Q := y_C_wp (cs := [12]) (ng := []) (sy := []) (n := 300) y_68P h
theorem y_68_12 {m : z_M} {g : z_g} {Q : q_V → q_S → Prop} {a1 a2 s0 : Int} (h :
    Q (.inl s0) (z_st m g)) :
    z_T 68 12 [.inr (.inr 29), .inl a1, .inl a2] [.inl s0] (z_st m g) Q := y_wp_T (cd := q_c68) (cs := [12]) (ng := []) (sy := []) rfl 300 12 _ _ _ _ h
theorem y_69P : q_P 69 = (q_c69, 5) := rfl
theorem y_69 {m : z_M} {g : z_g} {Q : q_V → q_S → Prop} (h :
    (0 ≤ (13 : Int) ∧ 0 ≤ (0 : Int) ∧ 0 ≤ (0 : Int) ∧ (0 : Int) + (13 : Int) ≤ ((13 : Nat) : Int) ∧ (0 : Int) + (13 : Int) ≤ ((13 : Nat) : Int)) ∧
    (0 ≤ (13 : Int) ∧ 0 ≤ (0 : Int) ∧ 0 ≤ (0 : Int) ∧ (0 : Int) + (13 : Int) ≤ ((13 : Nat) : Int) ∧ (0 : Int) + (13 : Int) ≤ ((13 : Nat) : Int)) ∧
    z_T 69 28 [.inr (.inr 70), .inr (.inr 73), .inr (.inr 74), .inl (0 : Int), q_dead] [] (z_st (q_cpy (q_cpy m 71 (((0 : Int)).toNat) 73 (((0 : Int)).toNat) (((13 : Int)).toNat)) 72 (((0 : Int)).toNat) 74 (((0 : Int)).toNat) (((13 : Int)).toNat)) g) Q) :
    z_C 69 [.inr (.inr 70)] (z_st m g) Q := y_C_wp (cs := [28, 33, 38, 49, 62, 65, 80]) (ng := []) (sy := []) (n := 300) y_69P h
theorem y_69_28 {m : z_M} {g : z_g} {Q : q_V → q_S → Prop} {a3 : Int} {oa1 oa2 : Nat} {da4 : q_V} (h :
    z_ok2 a3 (13 : Int) ∧
    ((13 : Int) < a3 →
      oa1 < 1000 ∧
      q_nd [.inr (.inr oa1)] ∧
      z_C 70 [.inr (.inr oa1)] (z_st m g) (fun v S => z_T 69 49 [.inr (.inr 70), .inr (.inr oa1), .inr (.inr oa2), .inl a3, da4] (q_push v [.inr (.inr 70)]) S Q)) ∧
    (a3 ≤ (13 : Int) →
      oa2 < 1000 ∧
      q_nd [.inr (.inr oa2)] ∧
      z_C 70 [.inr (.inr oa2)] (z_st m g) (fun v S => z_T 69 33 [.inr (.inr 70), .inr (.inr oa1), .inr (.inr oa2), .inl a3, da4] (q_push v []) S Q))) :
    z_T 69 28 [.inr (.inr 70), .inr (.inr oa1), .inr (.inr oa2), .inl a3, da4] [] (z_st m g) Q := y_wp_T (cd := q_c69) (cs := [28, 33, 38, 49, 62, 65, 80]) (ng := [31, 32, 47, 48]) (sy := []) rfl 300 28 _ _ _ _ h
theorem y_69_33 {m : z_M} {g : z_g} {Q : q_V → q_S → Prop} {a3 s0 : Int} {oa1 oa2 : Nat} {da4 : q_V} (h :
    z_ok s0 ∧
    (s0 < (0 : Int) →
      oa1 < 1000 ∧
      q_nd [.inr (.inr oa1)] ∧
      z_C 70 [.inr (.inr oa1)] (z_st m g) (fun v S => z_T 69 49 [.inr (.inr 70), .inr (.inr oa1), .inr (.inr oa2), .inl a3, da4] (q_push v [.inr (.inr 70)]) S Q)) ∧
    ((0 : Int) ≤ s0 →
      oa1 < 1000 ∧
      oa2 < 1000 ∧
      q_nd [.inr (.inr oa2), .inr (.inr oa1), .inr (.inr 70)] ∧
      z_C 71 [.inr (.inr 70), .inr (.inr oa1), .inr (.inr oa2)] (z_st m g) (fun v S => z_T 69 38 [.inr (.inr 70), .inr (.inr oa1), .inr (.inr oa2), .inl a3, da4] (q_push v []) S Q))) :
    z_T 69 33 [.inr (.inr 70), .inr (.inr oa1), .inr (.inr oa2), .inl a3, da4] [.inl s0] (z_st m g) Q := y_wp_T (cd := q_c69) (cs := [28, 33, 38, 49, 62, 65, 80]) (ng := [35, 36, 37, 47, 48]) (sy := []) rfl 300 33 _ _ _ _ h
theorem y_69_38 {m : z_M} {g : z_g} {Q : q_V → q_S → Prop} {a3 : Int} {oa1 oa2 : Nat} {da4 : q_V} (h :
    oa1 < 1000 ∧
    oa1 < 1000 ∧
    oa2 < 1000 ∧
    oa2 < 1000 ∧
    oa1 < 1000 ∧
    oa1 < 1000 ∧
    z_T 69 28 [.inr (.inr 70), .inr (.inr oa2), .inr (.inr oa1), .inl (a3 + (1 : Int)), .inr (.inr oa1)] [] (z_st m g) Q) :
    z_T 69 38 [.inr (.inr 70), .inr (.inr oa1), .inr (.inr oa2), .inl a3, da4] [] (z_st m g) Q := y_wp_T (cd := q_c69) (cs := [28, 33, 38, 49, 62, 65, 80]) (ng := [38, 39, 40, 41, 42, 43]) (sy := []) rfl 300 38 _ _ _ _ h
theorem y_69_49 {m : z_M} {g : z_g} {Q : q_V → q_S → Prop} {a3 s0 : Int} {oa1 oa2 : Nat} {da4 : q_V} (h :
    z_ok s0 ∧
    ((0 : Int) ≤ s0 →
      oa1 < 1000 ∧
      z_sp (q_sh0 ++ g.2.2.1) oa1 0 13 ∧ z_in s0 13 ∧
      z_C 72 [.inr (.inr 29), .inl ((q_upd m 70 6 s0) oa1 ((s0).toNat))] (z_st (q_upd m 70 6 s0) g) (fun v S => z_T 69 62 [.inr (.inr 70), .inr (.inr oa1), .inr (.inr oa2), .inl a3, da4] (q_push v []) S Q)) ∧
    (s0 < (0 : Int) →
      z_T 69 62 [.inr (.inr 70), .inr (.inr oa1), .inr (.inr oa2), .inl a3, da4] [.inl (0 : Int)] (z_st (q_upd m 70 6 s0) g) Q)) :
    z_T 69 49 [.inr (.inr 70), .inr (.inr oa1), .inr (.inr oa2), .inl a3, da4] [.inl s0, .inr (.inr 70)] (z_st m g) Q := y_wp_T (cd := q_c69) (cs := [28, 33, 38, 49, 62, 65, 80]) (ng := [57]) (sy := [(60, 13)]) rfl 300 49 _ _ _ _ h
theorem y_69_62 {m : z_M} {g : z_g} {Q : q_V → q_S → Prop} {a3 s0 : Int} {oa1 oa2 : Nat} {da4 : q_V} (h :
    z_T 69 65 [.inr (.inr 70), .inr (.inr oa1), .inr (.inr oa2), .inl s0, .inl (0 : Int)] [] (z_st m g) Q) :
    z_T 69 62 [.inr (.inr 70), .inr (.inr oa1), .inr (.inr oa2), .inl a3, da4] [.inl s0] (z_st m g) Q := y_wp_T (cd := q_c69) (cs := [28, 33, 38, 49, 62, 65, 80]) (ng := []) (sy := []) rfl 300 62 _ _ _ _ h
theorem y_69_65 {m : z_M} {g : z_g} {Q : q_V → q_S → Prop} {a3 a4 : Int} {oa1 oa2 : Nat} (h :
    z_ok2 a4 (13 : Int) ∧
    ((13 : Int) ≤ a4 →
      Q q_dead (z_st m g)) ∧
    (a4 < (13 : Int) →
      oa1 < 1000 ∧
      z_sp (q_sh0 ++ g.2.2.1) oa1 0 13 ∧ z_in a4 13 ∧
      z_C 68 [.inr (.inr 29), .inl (m oa1 ((a4).toNat)), .inl a3] (z_st m g) (fun v S => z_T 69 80 [.inr (.inr 70), .inr (.inr oa1), .inr (.inr oa2), .inl a3, .inl a4] (q_push v [.inl a4, .inr (.inr 73)]) S Q))) :
    z_T 69 65 [.inr (.inr 70), .inr (.inr oa1), .inr (.inr oa2), .inl a3, .inl a4] [] (z_st m g) Q := y_wp_T (cd := q_c69) (cs := [28, 33, 38, 49, 62, 65, 80]) (ng := [75]) (sy := [(77, 13)]) rfl 300 65 _ _ _ _ h
theorem y_69_80 {m : z_M} {g : z_g} {Q : q_V → q_S → Prop} {a3 a4 s0 s1 : Int} {oa1 oa2 : Nat} (h :
    z_in s1 13 ∧
    z_T 69 65 [.inr (.inr 70), .inr (.inr oa1), .inr (.inr oa2), .inl a3, .inl (a4 + (1 : Int))] [] (z_st (q_upd m 73 ((s1).toNat) s0) g) Q) :
    z_T 69 80 [.inr (.inr 70), .inr (.inr oa1), .inr (.inr oa2), .inl a3, .inl a4] [.inl s0, .inl s1, .inr (.inr 73)] (z_st m g) Q := y_wp_T (cd := q_c69) (cs := [28, 33, 38, 49, 62, 65, 80]) (ng := []) (sy := []) rfl 300 80 _ _ _ _ h
theorem y_70aP : q_P 70 = (q_c70, 2) := rfl
theorem y_70a {m : z_M} {g : z_g} {Q : q_V → q_S → Prop} (h :
    z_T 70 5 [.inr (.inr 73), .inl ((13 : Int) - (1 : Int))] [] (z_st m g) Q) :
    z_C 70 [.inr (.inr 73)] (z_st m g) Q := y_C_wp (cs := [5]) (ng := []) (sy := []) (n := 300) y_70aP h
theorem y_70a_5 {m : z_M} {g : z_g} {Q : q_V → q_S → Prop} {a1 : Int} (h :
    z_ok a1 ∧
    (a1 < (0 : Int) →
      Q (.inl (-1 : Int)) (z_st m g)) ∧
    ((0 : Int) ≤ a1 →
      z_in a1 13 ∧
      z_ok (m 73 ((a1).toNat)) ∧
      ((m 73 ((a1).toNat)) = (0 : Int) →
        z_T 70 5 [.inr (.inr 73), .inl (a1 + (-1 : Int))] [] (z_st m g) Q) ∧
      (¬ (m 73 ((a1).toNat)) = (0 : Int) →
        Q (.inl a1) (z_st m g)))) :
    z_T 70 5 [.inr (.inr 73), .inl a1] [] (z_st m g) Q := y_wp_T (cd := q_c70) (cs := [5]) (ng := []) (sy := []) rfl 300 5 _ _ _ _ h
theorem y_70bP : q_P 70 = (q_c70, 2) := rfl
theorem y_70b {m : z_M} {g : z_g} {Q : q_V → q_S → Prop} (h :
    z_T 70 5 [.inr (.inr 74), .inl ((13 : Int) - (1 : Int))] [] (z_st m g) Q) :
    z_C 70 [.inr (.inr 74)] (z_st m g) Q := y_C_wp (cs := [5]) (ng := []) (sy := []) (n := 300) y_70bP h
theorem y_70b_5 {m : z_M} {g : z_g} {Q : q_V → q_S → Prop} {a1 : Int} (h :
    z_ok a1 ∧
    (a1 < (0 : Int) →
      Q (.inl (-1 : Int)) (z_st m g)) ∧
    ((0 : Int) ≤ a1 →
      z_in a1 13 ∧
      z_ok (m 74 ((a1).toNat)) ∧
      ((m 74 ((a1).toNat)) = (0 : Int) →
        z_T 70 5 [.inr (.inr 74), .inl (a1 + (-1 : Int))] [] (z_st m g) Q) ∧
      (¬ (m 74 ((a1).toNat)) = (0 : Int) →
        Q (.inl a1) (z_st m g)))) :
    z_T 70 5 [.inr (.inr 74), .inl a1] [] (z_st m g) Q := y_wp_T (cd := q_c70) (cs := [5]) (ng := []) (sy := []) rfl 300 5 _ _ _ _ h
theorem y_71aP : q_P 71 = (q_c71, 8) := rfl
theorem y_71a {m : z_M} {g : z_g} {Q : q_V → q_S → Prop} (h :
    z_C 70 [.inr (.inr 74)] (z_st m g) (fun v S => z_T 71 2 [.inr (.inr 70), .inr (.inr 73), .inr (.inr 74), q_dead, q_dead, q_dead, q_dead, q_dead] (q_push v []) S Q)) :
    z_C 71 [.inr (.inr 70), .inr (.inr 73), .inr (.inr 74)] (z_st m g) Q := y_C_wp (cs := [2, 12, 15, 16, 26, 29, 54]) (ng := []) (sy := []) (n := 300) y_71aP h
theorem y_71a_2 {m : z_M} {g : z_g} {Q : q_V → q_S → Prop} {s0 : Int} (h :
    z_ok s0 ∧
    ((0 : Int) ≤ s0 →
      z_in s0 13 ∧
      z_C 72 [.inr (.inr 29), .inl (m 74 ((s0).toNat))] (z_st m g) (fun v S => z_T 71 12 [.inr (.inr 70), .inr (.inr 73), .inr (.inr 74), .inl s0, q_dead, q_dead, q_dead, q_dead] (q_push v []) S Q)) ∧
    (s0 < (0 : Int) →
      Q q_dead (z_st m g))) :
    z_T 71 2 [.inr (.inr 70), .inr (.inr 73), .inr (.inr 74), q_dead, q_dead, q_dead, q_dead, q_dead] [.inl s0] (z_st m g) Q := y_wp_T (cd := q_c71) (cs := [2, 12, 15, 16, 26, 29, 54]) (ng := []) (sy := []) rfl 300 2 _ _ _ _ h
theorem y_71a_12 {m : z_M} {g : z_g} {Q : q_V → q_S → Prop} {a3 s0 : Int} (h :
    z_C 70 [.inr (.inr 73)] (z_st m g) (fun v S => z_T 71 15 [.inr (.inr 70), .inr (.inr 73), .inr (.inr 74), .inl a3, .inl s0, q_dead, q_dead, q_dead] (q_push v []) S Q)) :
    z_T 71 12 [.inr (.inr 70), .inr (.inr 73), .inr (.inr 74), .inl a3, q_dead, q_dead, q_dead, q_dead] [.inl s0] (z_st m g) Q := y_wp_T (cd := q_c71) (cs := [2, 12, 15, 16, 26, 29, 54]) (ng := []) (sy := []) rfl 300 12 _ _ _ _ h
theorem y_71a_15 {m : z_M} {g : z_g} {Q : q_V → q_S → Prop} {a3 a4 s0 : Int} (h :
    z_T 71 16 [.inr (.inr 70), .inr (.inr 73), .inr (.inr 74), .inl a3, .inl a4, .inl s0, q_dead, q_dead] [] (z_st m g) Q) :
    z_T 71 15 [.inr (.inr 70), .inr (.inr 73), .inr (.inr 74), .inl a3, .inl a4, q_dead, q_dead, q_dead] [.inl s0] (z_st m g) Q := y_wp_T (cd := q_c71) (cs := [2, 12, 15, 16, 26, 29, 54]) (ng := []) (sy := []) rfl 300 15 _ _ _ _ h
theorem y_71a_16 {m : z_M} {g : z_g} {Q : q_V → q_S → Prop} {a3 a4 a5 : Int} {da6 da7 : q_V} (h :
    z_ok2 a5 a3 ∧
    (a5 < a3 →
      Q q_dead (z_st m g)) ∧
    (a3 ≤ a5 →
      z_in a5 13 ∧
      z_C 68 [.inr (.inr 29), .inl (m 73 ((a5).toNat)), .inl a4] (z_st m g) (fun v S => z_T 71 26 [.inr (.inr 70), .inr (.inr 73), .inr (.inr 74), .inl a3, .inl a4, .inl a5, da6, da7] (q_push v []) S Q))) :
    z_T 71 16 [.inr (.inr 70), .inr (.inr 73), .inr (.inr 74), .inl a3, .inl a4, .inl a5, da6, da7] [] (z_st m g) Q := y_wp_T (cd := q_c71) (cs := [2, 12, 15, 16, 26, 29, 54]) (ng := []) (sy := []) rfl 300 16 _ _ _ _ h
theorem y_71a_26 {m : z_M} {g : z_g} {Q : q_V → q_S → Prop} {a3 a4 a5 s0 : Int} {da6 da7 : q_V} (h :
    z_T 71 29 [.inr (.inr 70), .inr (.inr 73), .inr (.inr 74), .inl a3, .inl a4, .inl a5, .inl s0, .inl (0 : Int)] [] (z_st m g) Q) :
    z_T 71 26 [.inr (.inr 70), .inr (.inr 73), .inr (.inr 74), .inl a3, .inl a4, .inl a5, da6, da7] [.inl s0] (z_st m g) Q := y_wp_T (cd := q_c71) (cs := [2, 12, 15, 16, 26, 29, 54]) (ng := []) (sy := []) rfl 300 26 _ _ _ _ h
theorem y_71a_29 {m : z_M} {g : z_g} {Q : q_V → q_S → Prop} {a3 a4 a5 a6 a7 : Int} (h :
    z_ok2 a7 a3 ∧
    (a3 < a7 →
      z_T 71 16 [.inr (.inr 70), .inr (.inr 73), .inr (.inr 74), .inl a3, .inl a4, .inl (a5 + (-1 : Int)), .inl a6, .inl a7] [] (z_st m g) Q) ∧
    (a7 ≤ a3 →
      z_in ((a5 - a3) + a7) 13 ∧
      z_in a7 13 ∧
      z_C 52 [.inr (.inr 29), .inl ((m 73 (((a5 - a3) + a7).toNat)) - (a6 * (m 74 ((a7).toNat))))] (z_st m g) (fun v S => z_T 71 54 [.inr (.inr 70), .inr (.inr 73), .inr (.inr 74), .inl a3, .inl a4, .inl a5, .inl a6, .inl a7] (q_push v [.inl ((a5 - a3) + a7), .inr (.inr 73)]) S Q))) :
    z_T 71 29 [.inr (.inr 70), .inr (.inr 73), .inr (.inr 74), .inl a3, .inl a4, .inl a5, .inl a6, .inl a7] [] (z_st m g) Q := y_wp_T (cd := q_c71) (cs := [2, 12, 15, 16, 26, 29, 54]) (ng := []) (sy := []) rfl 300 29 _ _ _ _ h
theorem y_71a_54 {m : z_M} {g : z_g} {Q : q_V → q_S → Prop} {a3 a4 a5 a6 a7 s0 s1 : Int} (h :
    z_in s1 13 ∧
    z_T 71 29 [.inr (.inr 70), .inr (.inr 73), .inr (.inr 74), .inl a3, .inl a4, .inl a5, .inl a6, .inl (a7 + (1 : Int))] [] (z_st (q_upd m 73 ((s1).toNat) s0) g) Q) :
    z_T 71 54 [.inr (.inr 70), .inr (.inr 73), .inr (.inr 74), .inl a3, .inl a4, .inl a5, .inl a6, .inl a7] [.inl s0, .inl s1, .inr (.inr 73)] (z_st m g) Q := y_wp_T (cd := q_c71) (cs := [2, 12, 15, 16, 26, 29, 54]) (ng := []) (sy := []) rfl 300 54 _ _ _ _ h
theorem y_71bP : q_P 71 = (q_c71, 8) := rfl
theorem y_71b {m : z_M} {g : z_g} {Q : q_V → q_S → Prop} (h :
    z_C 70 [.inr (.inr 73)] (z_st m g) (fun v S => z_T 71 2 [.inr (.inr 70), .inr (.inr 74), .inr (.inr 73), q_dead, q_dead, q_dead, q_dead, q_dead] (q_push v []) S Q)) :
    z_C 71 [.inr (.inr 70), .inr (.inr 74), .inr (.inr 73)] (z_st m g) Q := y_C_wp (cs := [2, 12, 15, 16, 26, 29, 54]) (ng := []) (sy := []) (n := 300) y_71bP h
theorem y_71b_2 {m : z_M} {g : z_g} {Q : q_V → q_S → Prop} {s0 : Int} (h :
    z_ok s0 ∧
    ((0 : Int) ≤ s0 →
      z_in s0 13 ∧
      z_C 72 [.inr (.inr 29), .inl (m 73 ((s0).toNat))] (z_st m g) (fun v S => z_T 71 12 [.inr (.inr 70), .inr (.inr 74), .inr (.inr 73), .inl s0, q_dead, q_dead, q_dead, q_dead] (q_push v []) S Q)) ∧
    (s0 < (0 : Int) →
      Q q_dead (z_st m g))) :
    z_T 71 2 [.inr (.inr 70), .inr (.inr 74), .inr (.inr 73), q_dead, q_dead, q_dead, q_dead, q_dead] [.inl s0] (z_st m g) Q := y_wp_T (cd := q_c71) (cs := [2, 12, 15, 16, 26, 29, 54]) (ng := []) (sy := []) rfl 300 2 _ _ _ _ h
theorem y_71b_12 {m : z_M} {g : z_g} {Q : q_V → q_S → Prop} {a3 s0 : Int} (h :
    z_C 70 [.inr (.inr 74)] (z_st m g) (fun v S => z_T 71 15 [.inr (.inr 70), .inr (.inr 74), .inr (.inr 73), .inl a3, .inl s0, q_dead, q_dead, q_dead] (q_push v []) S Q)) :
    z_T 71 12 [.inr (.inr 70), .inr (.inr 74), .inr (.inr 73), .inl a3, q_dead, q_dead, q_dead, q_dead] [.inl s0] (z_st m g) Q := y_wp_T (cd := q_c71) (cs := [2, 12, 15, 16, 26, 29, 54]) (ng := []) (sy := []) rfl 300 12 _ _ _ _ h
theorem y_71b_15 {m : z_M} {g : z_g} {Q : q_V → q_S → Prop} {a3 a4 s0 : Int} (h :
    z_T 71 16 [.inr (.inr 70), .inr (.inr 74), .inr (.inr 73), .inl a3, .inl a4, .inl s0, q_dead, q_dead] [] (z_st m g) Q) :
    z_T 71 15 [.inr (.inr 70), .inr (.inr 74), .inr (.inr 73), .inl a3, .inl a4, q_dead, q_dead, q_dead] [.inl s0] (z_st m g) Q := y_wp_T (cd := q_c71) (cs := [2, 12, 15, 16, 26, 29, 54]) (ng := []) (sy := []) rfl 300 15 _ _ _ _ h
theorem y_71b_16 {m : z_M} {g : z_g} {Q : q_V → q_S → Prop} {a3 a4 a5 : Int} {da6 da7 : q_V} (h :
    z_ok2 a5 a3 ∧
    (a5 < a3 →
      Q q_dead (z_st m g)) ∧
    (a3 ≤ a5 →
      z_in a5 13 ∧
      z_C 68 [.inr (.inr 29), .inl (m 74 ((a5).toNat)), .inl a4] (z_st m g) (fun v S => z_T 71 26 [.inr (.inr 70), .inr (.inr 74), .inr (.inr 73), .inl a3, .inl a4, .inl a5, da6, da7] (q_push v []) S Q))) :
    z_T 71 16 [.inr (.inr 70), .inr (.inr 74), .inr (.inr 73), .inl a3, .inl a4, .inl a5, da6, da7] [] (z_st m g) Q := y_wp_T (cd := q_c71) (cs := [2, 12, 15, 16, 26, 29, 54]) (ng := []) (sy := []) rfl 300 16 _ _ _ _ h
theorem y_71b_26 {m : z_M} {g : z_g} {Q : q_V → q_S → Prop} {a3 a4 a5 s0 : Int} {da6 da7 : q_V} (h :
    z_T 71 29 [.inr (.inr 70), .inr (.inr 74), .inr (.inr 73), .inl a3, .inl a4, .inl a5, .inl s0, .inl (0 : Int)] [] (z_st m g) Q) :
    z_T 71 26 [.inr (.inr 70), .inr (.inr 74), .inr (.inr 73), .inl a3, .inl a4, .inl a5, da6, da7] [.inl s0] (z_st m g) Q := y_wp_T (cd := q_c71) (cs := [2, 12, 15, 16, 26, 29, 54]) (ng := []) (sy := []) rfl 300 26 _ _ _ _ h
theorem y_71b_29 {m : z_M} {g : z_g} {Q : q_V → q_S → Prop} {a3 a4 a5 a6 a7 : Int} (h :
    z_ok2 a7 a3 ∧
    (a3 < a7 →
      z_T 71 16 [.inr (.inr 70), .inr (.inr 74), .inr (.inr 73), .inl a3, .inl a4, .inl (a5 + (-1 : Int)), .inl a6, .inl a7] [] (z_st m g) Q) ∧
    (a7 ≤ a3 →
      z_in ((a5 - a3) + a7) 13 ∧
      z_in a7 13 ∧
      z_C 52 [.inr (.inr 29), .inl ((m 74 (((a5 - a3) + a7).toNat)) - (a6 * (m 73 ((a7).toNat))))] (z_st m g) (fun v S => z_T 71 54 [.inr (.inr 70), .inr (.inr 74), .inr (.inr 73), .inl a3, .inl a4, .inl a5, .inl a6, .inl a7] (q_push v [.inl ((a5 - a3) + a7), .inr (.inr 74)]) S Q))) :
    z_T 71 29 [.inr (.inr 70), .inr (.inr 74), .inr (.inr 73), .inl a3, .inl a4, .inl a5, .inl a6, .inl a7] [] (z_st m g) Q := y_wp_T (cd := q_c71) (cs := [2, 12, 15, 16, 26, 29, 54]) (ng := []) (sy := []) rfl 300 29 _ _ _ _ h
theorem y_71b_54 {m : z_M} {g : z_g} {Q : q_V → q_S → Prop} {a3 a4 a5 a6 a7 s0 s1 : Int} (h :
    z_in s1 13 ∧
    z_T 71 29 [.inr (.inr 70), .inr (.inr 74), .inr (.inr 73), .inl a3, .inl a4, .inl a5, .inl a6, .inl (a7 + (1 : Int))] [] (z_st (q_upd m 74 ((s1).toNat) s0) g) Q) :
    z_T 71 54 [.inr (.inr 70), .inr (.inr 74), .inr (.inr 73), .inl a3, .inl a4, .inl a5, .inl a6, .inl a7] [.inl s0, .inl s1, .inr (.inr 74)] (z_st m g) Q := y_wp_T (cd := q_c71) (cs := [2, 12, 15, 16, 26, 29, 54]) (ng := []) (sy := []) rfl 300 54 _ _ _ _ h
theorem y_72P : q_P 72 = (q_c72, 2) := rfl
theorem y_72 {m : z_M} {g : z_g} {Q : q_V → q_S → Prop} {a1 : Int} (h :
    z_ok a1 ∧
    (a1 < (0 : Int) →
      Q (.inl (0 : Int)) (z_st m g)) ∧
    ((0 : Int) ≤ a1 →
      z_ok2 a1 (31 : Int) ∧
      (a1 < (31 : Int) →
        z_in a1 31 ∧
        Q (.inl (m 62 ((a1).toNat))) (z_st m g)) ∧
      ((31 : Int) ≤ a1 →
        Q (.inl (0 : Int)) (z_st m g)))) :
    z_C 72 [.inr (.inr 29), .inl a1] (z_st m g) Q := y_C_wp (cs := []) (ng := []) (sy := []) (n := 300) y_72P h
theorem y_73P : q_P 73 = (q_c73, 4) := rfl
theorem y_73 {m : z_M} {g : z_g} {Q : q_V → q_S → Prop} {a1 a2 a3 : Int} (h :
    z_C 44 [.inr (.inr 0), .inl a1, .inl a2] (z_st m g) (fun v S => z_T 73 4 [.inr (.inr 0), .inl a1, .inl a2, .inl a3] (q_push v []) S Q)) :
    z_C 73 [.inr (.inr 0), .inl a1, .inl a2, .inl a3] (z_st m g) Q := y_C_wp (cs := [4, 23, 30, 31]) (ng := []) (sy := []) (n := 300) y_73P h
theorem y_73_4 {m : z_M} {g : z_g} {Q : q_V → q_S → Prop} {a1 a2 a3 s0 : Int} (h :
    z_ok s0 ∧
    (¬ s0 = (0 : Int) →
      z_ok a3 ∧
      (¬ a3 = (0 : Int) →
        z_ok2 a3 (1 : Int) ∧
        (¬ a3 = (1 : Int) →
          Q (.inl (-1 : Int)) (z_st m g)) ∧
        (a3 = (1 : Int) →
          z_C 49 [.inr (.inr 0), .inl a1] (z_st m g) (fun v S => z_T 73 23 [.inr (.inr 0), .inl a1, .inl a2, .inl a3] (q_push v []) S Q))) ∧
      (a3 = (0 : Int) →
        z_rw (q_rfz g.1 g.2.1) 6 a1 6 ∧
        z_sp (q_sh0 ++ g.2.2.1) (7 + (a1).toNat) 0 13 ∧ z_in a2 13 ∧
        Q (.inl (m (7 + (a1).toNat) ((a2).toNat))) (z_st m g))) ∧
    (s0 = (0 : Int) →
      Q (.inl (-1 : Int)) (z_st m g))) :
    z_T 73 4 [.inr (.inr 0), .inl a1, .inl a2, .inl a3] [.inl s0] (z_st m g) Q := y_wp_T (cd := q_c73) (cs := [4, 23, 30, 31]) (ng := []) (sy := [(15, 13)]) rfl 300 4 _ _ _ _ h
theorem y_73_23 {m : z_M} {g : z_g} {Q : q_V → q_S → Prop} {a1 a2 a3 : Int} (h :
    z_C 37 [.inr (.inr 66), .inl a2] (z_st m g) (fun v S => z_T 73 30 [.inr (.inr 0), .inl a1, .inl a2, .inl a3] (q_push v [.inr (.inr 65)]) S Q)) :
    z_T 73 23 [.inr (.inr 0), .inl a1, .inl a2, .inl a3] [] (z_st m g) Q := y_wp_T (cd := q_c73) (cs := [4, 23, 30, 31]) (ng := []) (sy := []) rfl 300 23 _ _ _ _ h
theorem y_73_30 {m : z_M} {g : z_g} {Q : q_V → q_S → Prop} {a1 a2 a3 s0 : Int} (h :
    z_C 67 [.inr (.inr 65), .inl s0] (z_st m g) (fun v S => z_T 73 31 [.inr (.inr 0), .inl a1, .inl a2, .inl a3] (q_push v []) S Q)) :
    z_T 73 30 [.inr (.inr 0), .inl a1, .inl a2, .inl a3] [.inl s0, .inr (.inr 65)] (z_st m g) Q := y_wp_T (cd := q_c73) (cs := [4, 23, 30, 31]) (ng := []) (sy := []) rfl 300 30 _ _ _ _ h
theorem y_73_31 {m : z_M} {g : z_g} {Q : q_V → q_S → Prop} {a1 a2 a3 s0 : Int} (h :
    Q (.inl s0) (z_st m g)) :
    z_T 73 31 [.inr (.inr 0), .inl a1, .inl a2, .inl a3] [.inl s0] (z_st m g) Q := y_wp_T (cd := q_c73) (cs := [4, 23, 30, 31]) (ng := []) (sy := []) rfl 300 31 _ _ _ _ h
theorem y_74P : q_P 74 = (q_c74, 4) := rfl
theorem y_74 {m : z_M} {g : z_g} {Q : q_V → q_S → Prop} {a1 a2 a3 : Int} (h :
    z_C 45 [.inr (.inr 0), .inl a1] (z_st m g) (fun v S => z_T 74 3 [.inr (.inr 0), .inl a1, .inl a2, .inl a3] (q_push v []) S Q)) :
    z_C 74 [.inr (.inr 0), .inl a1, .inl a2, .inl a3] (z_st m g) Q := y_C_wp (cs := [3, 10, 16, 22, 30, 41, 45]) (ng := []) (sy := []) (n := 300) y_74P h
theorem y_74_3 {m : z_M} {g : z_g} {Q : q_V → q_S → Prop} {a1 a2 a3 s0 : Int} (h :
    z_ok s0 ∧
    (s0 = (0 : Int) →
      Q (.inl (-1 : Int)) (z_st m g)) ∧
    (¬ s0 = (0 : Int) →
      z_ok a2 ∧
      (a2 < (0 : Int) →
        Q (.inl (-1 : Int)) (z_st m g)) ∧
      ((0 : Int) ≤ a2 →
        z_C 50 [.inr (.inr 1)] (z_st m g) (fun v S => z_T 74 10 [.inr (.inr 0), .inl a1, .inl a2, .inl a3] (q_push v [.inl a2]) S Q)))) :
    z_T 74 3 [.inr (.inr 0), .inl a1, .inl a2, .inl a3] [.inl s0] (z_st m g) Q := y_wp_T (cd := q_c74) (cs := [3, 10, 16, 22, 30, 41, 45]) (ng := []) (sy := []) rfl 300 3 _ _ _ _ h
theorem y_74_10 {m : z_M} {g : z_g} {Q : q_V → q_S → Prop} {a1 a2 a3 s0 s1 : Int} (h :
    z_ok2 s1 s0 ∧
    (s1 < s0 →
      z_C 49 [.inr (.inr 0), .inl a1] (z_st m g) (fun v S => z_T 74 16 [.inr (.inr 0), .inl a1, .inl a2, .inl a3] (q_push v []) S Q)) ∧
    (s0 ≤ s1 →
      Q (.inl (-1 : Int)) (z_st m g))) :
    z_T 74 10 [.inr (.inr 0), .inl a1, .inl a2, .inl a3] [.inl s0, .inl s1] (z_st m g) Q := y_wp_T (cd := q_c74) (cs := [3, 10, 16, 22, 30, 41, 45]) (ng := []) (sy := []) rfl 300 10 _ _ _ _ h
theorem y_74_16 {m : z_M} {g : z_g} {Q : q_V → q_S → Prop} {a1 a2 a3 : Int} (h :
    z_ok a3 ∧
    (¬ a3 = (0 : Int) →
      z_ok2 a3 (1 : Int) ∧
      (¬ a3 = (1 : Int) →
        z_ok2 a3 (2 : Int) ∧
        (¬ a3 = (2 : Int) →
          Q (.inl (-1 : Int)) (z_st m g)) ∧
        (a3 = (2 : Int) →
          z_ok a2 ∧
          (a2 = (0 : Int) →
            Q (.inl (-1 : Int)) (z_st m g)) ∧
          (¬ a2 = (0 : Int) →
            z_C 66 [.inr (.inr 70), .inr (.inr 65)] (z_st m g) (fun v S => z_T 74 41 [.inr (.inr 0), .inl a1, .inl a2, .inl a3] (q_push v []) S Q)))) ∧
      (a3 = (1 : Int) →
        z_C 64 [.inr (.inr 65), .inl a2] (z_st m g) (fun v S => z_T 74 30 [.inr (.inr 0), .inl a1, .inl a2, .inl a3] (q_push v []) S Q))) ∧
    (a3 = (0 : Int) →
      z_C 60 [.inr (.inr 65), .inl a2] (z_st m g) (fun v S => z_T 74 22 [.inr (.inr 0), .inl a1, .inl a2, .inl a3] (q_push v []) S Q))) :
    z_T 74 16 [.inr (.inr 0), .inl a1, .inl a2, .inl a3] [] (z_st m g) Q := y_wp_T (cd := q_c74) (cs := [3, 10, 16, 22, 30, 41, 45]) (ng := []) (sy := []) rfl 300 16 _ _ _ _ h
theorem y_74_22 {m : z_M} {g : z_g} {Q : q_V → q_S → Prop} {a1 a2 a3 s0 : Int} (h :
    Q (.inl s0) (z_st m g)) :
    z_T 74 22 [.inr (.inr 0), .inl a1, .inl a2, .inl a3] [.inl s0] (z_st m g) Q := y_wp_T (cd := q_c74) (cs := [3, 10, 16, 22, 30, 41, 45]) (ng := []) (sy := []) rfl 300 22 _ _ _ _ h
theorem y_74_30 {m : z_M} {g : z_g} {Q : q_V → q_S → Prop} {a1 a2 a3 s0 : Int} (h :
    Q (.inl s0) (z_st m g)) :
    z_T 74 30 [.inr (.inr 0), .inl a1, .inl a2, .inl a3] [.inl s0] (z_st m g) Q := y_wp_T (cd := q_c74) (cs := [3, 10, 16, 22, 30, 41, 45]) (ng := []) (sy := []) rfl 300 30 _ _ _ _ h
theorem y_74_41 {m : z_M} {g : z_g} {Q : q_V → q_S → Prop} {a1 a2 a3 : Int} (h :
    z_C 75 [.inr (.inr 70), .inl a2] (z_st m g) (fun v S => z_T 74 45 [.inr (.inr 0), .inl a1, .inl a2, .inl a3] (q_push v []) S Q)) :
    z_T 74 41 [.inr (.inr 0), .inl a1, .inl a2, .inl a3] [] (z_st m g) Q := y_wp_T (cd := q_c74) (cs := [3, 10, 16, 22, 30, 41, 45]) (ng := []) (sy := []) rfl 300 41 _ _ _ _ h
theorem y_74_45 {m : z_M} {g : z_g} {Q : q_V → q_S → Prop} {a1 a2 a3 s0 : Int} (h :
    Q (.inl s0) (z_st m g)) :
    z_T 74 45 [.inr (.inr 0), .inl a1, .inl a2, .inl a3] [.inl s0] (z_st m g) Q := y_wp_T (cd := q_c74) (cs := [3, 10, 16, 22, 30, 41, 45]) (ng := []) (sy := []) rfl 300 45 _ _ _ _ h
theorem y_75P : q_P 75 = (q_c75, 3) := rfl
theorem y_75 {m : z_M} {g : z_g} {Q : q_V → q_S → Prop} {a1 : Int} (h :
    (0 ≤ (13 : Int) ∧ 0 ≤ (0 : Int) ∧ 0 ≤ (0 : Int) ∧ (0 : Int) + (13 : Int) ≤ ((13 : Nat) : Int) ∧ (0 : Int) + (13 : Int) ≤ ((13 : Nat) : Int)) ∧
    z_C 70 [.inr (.inr 74)] (z_st (q_cpy m 71 (((0 : Int)).toNat) 74 (((0 : Int)).toNat) (((13 : Int)).toNat)) g) (fun v S => z_T 75 13 [.inr (.inr 70), .inl a1, q_dead] (q_push v []) S Q)) :
    z_C 75 [.inr (.inr 70), .inl a1] (z_st m g) Q := y_C_wp (cs := [13, 18, 24]) (ng := []) (sy := []) (n := 300) y_75P h
theorem y_75_13 {m : z_M} {g : z_g} {Q : q_V → q_S → Prop} {a1 s0 : Int} (h :
    z_ok s0 ∧
    ((0 : Int) ≤ s0 →
      z_T 75 18 [.inr (.inr 70), .inl a1, .inl (0 : Int)] [] (z_st m g) Q) ∧
    (s0 < (0 : Int) →
      Q (.inl (99 : Int)) (z_st m g))) :
    z_T 75 13 [.inr (.inr 70), .inl a1, q_dead] [.inl s0] (z_st m g) Q := y_wp_T (cd := q_c75) (cs := [13, 18, 24]) (ng := []) (sy := []) rfl 300 13 _ _ _ _ h
theorem y_75_18 {m : z_M} {g : z_g} {Q : q_V → q_S → Prop} {a1 a2 : Int} (h :
    z_ok2 a2 (12 : Int) ∧
    ((12 : Int) < a2 →
      Q (.inl a2) (z_st m g)) ∧
    (a2 ≤ (12 : Int) →
      z_C 76 [.inr (.inr 70), .inl a1] (z_st m g) (fun v S => z_T 75 24 [.inr (.inr 70), .inl a1, .inl a2] (q_push v []) S Q))) :
    z_T 75 18 [.inr (.inr 70), .inl a1, .inl a2] [] (z_st m g) Q := y_wp_T (cd := q_c75) (cs := [13, 18, 24]) (ng := []) (sy := []) rfl 300 18 _ _ _ _ h
theorem y_75_24 {m : z_M} {g : z_g} {Q : q_V → q_S → Prop} {a1 a2 s0 : Int} (h :
    z_ok s0 ∧
    (¬ s0 = (0 : Int) →
      Q (.inl a2) (z_st m g)) ∧
    (s0 = (0 : Int) →
      z_T 75 18 [.inr (.inr 70), .inl a1, .inl (a2 + (1 : Int))] [] (z_st m g) Q)) :
    z_T 75 24 [.inr (.inr 70), .inl a1, .inl a2] [.inl s0] (z_st m g) Q := y_wp_T (cd := q_c75) (cs := [13, 18, 24]) (ng := []) (sy := []) rfl 300 24 _ _ _ _ h
theorem y_76P : q_P 76 = (q_c76, 5) := rfl
theorem y_76 {m : z_M} {g : z_g} {Q : q_V → q_S → Prop} {a1 : Int} (h :
    z_T 76 8 [.inr (.inr 70), .inl a1, .inl (0 : Int), .inl ((13 : Int) - (1 : Int)), q_dead] [] (z_st m g) Q) :
    z_C 76 [.inr (.inr 70), .inl a1] (z_st m g) Q := y_C_wp (cs := [8, 28]) (ng := []) (sy := []) (n := 300) y_76P h
theorem y_76_8 {m : z_M} {g : z_g} {Q : q_V → q_S → Prop} {a1 a2 a3 : Int} {da4 : q_V} (h :
    z_ok a3 ∧
    (a3 < (0 : Int) →
      Q (.inl a2) (z_st m g)) ∧
    ((0 : Int) ≤ a3 →
      z_in a3 13 ∧
      z_in a3 13 ∧
      z_C 52 [.inr (.inr 29), .inl ((m 74 ((a3).toNat)) + (a2 * a1))] (z_st (q_upd m 74 ((a3).toNat) a2) g) (fun v S => z_T 76 28 [.inr (.inr 70), .inl a1, .inl a2, .inl a3, .inl (m 74 ((a3).toNat))] (q_push v []) S Q))) :
    z_T 76 8 [.inr (.inr 70), .inl a1, .inl a2, .inl a3, da4] [] (z_st m g) Q := y_wp_T (cd := q_c76) (cs := [8, 28]) (ng := []) (sy := []) rfl 300 8 _ _ _ _ h
theorem y_76_28 {m : z_M} {g : z_g} {Q : q_V → q_S → Prop} {a1 a2 a3 a4 s0 : Int} (h :
    z_T 76 8 [.inr (.inr 70), .inl a1, .inl s0, .inl (a3 + (-1 : Int)), .inl a4] [] (z_st m g) Q) :
    z_T 76 28 [.inr (.inr 70), .inl a1, .inl a2, .inl a3, .inl a4] [.inl s0] (z_st m g) Q := y_wp_T (cd := q_c76) (cs := [8, 28]) (ng := []) (sy := []) rfl 300 28 _ _ _ _ h
theorem y_77P : q_P 77 = (q_c77, 3) := rfl
theorem y_77 {m : z_M} {g : z_g} {Q : q_V → q_S → Prop} {a1 a2 : Int} (h :
    z_C 45 [.inr (.inr 0), .inl a1] (z_st m g) (fun v S => z_T 77 3 [.inr (.inr 0), .inl a1, .inl a2] (q_push v []) S Q)) :
    z_C 77 [.inr (.inr 0), .inl a1, .inl a2] (z_st m g) Q := y_C_wp (cs := [3, 11, 16, 19, 36]) (ng := []) (sy := []) (n := 300) y_77P h
theorem y_77_3 {m : z_M} {g : z_g} {Q : q_V → q_S → Prop} {a1 a2 s0 : Int} (h :
    z_ok s0 ∧
    (s0 = (0 : Int) →
      Q (.inl (-1 : Int)) (z_st m g)) ∧
    (¬ s0 = (0 : Int) →
      z_ok a2 ∧
      ((0 : Int) ≤ a2 →
        z_C 49 [.inr (.inr 0), .inl a1] (z_st m g) (fun v S => z_T 77 11 [.inr (.inr 0), .inl a1, .inl a2] (q_push v []) S Q)) ∧
      (a2 < (0 : Int) →
        Q (.inl (-1 : Int)) (z_st m g)))) :
    z_T 77 3 [.inr (.inr 0), .inl a1, .inl a2] [.inl s0] (z_st m g) Q := y_wp_T (cd := q_c77) (cs := [3, 11, 16, 19, 36]) (ng := []) (sy := []) rfl 300 3 _ _ _ _ h
theorem y_77_11 {m : z_M} {g : z_g} {Q : q_V → q_S → Prop} {a1 a2 : Int} (h :
    z_C 66 [.inr (.inr 70), .inr (.inr 65)] (z_st m g) (fun v S => z_T 77 16 [.inr (.inr 0), .inl a1, .inl a2] (q_push v []) S Q)) :
    z_T 77 11 [.inr (.inr 0), .inl a1, .inl a2] [] (z_st m g) Q := y_wp_T (cd := q_c77) (cs := [3, 11, 16, 19, 36]) (ng := []) (sy := []) rfl 300 11 _ _ _ _ h
theorem y_77_16 {m : z_M} {g : z_g} {Q : q_V → q_S → Prop} {a1 a2 : Int} (h :
    z_C 69 [.inr (.inr 70)] (z_st m g) (fun v S => z_T 77 19 [.inr (.inr 0), .inl a1, .inl a2] (q_push v []) S Q)) :
    z_T 77 16 [.inr (.inr 0), .inl a1, .inl a2] [] (z_st m g) Q := y_wp_T (cd := q_c77) (cs := [3, 11, 16, 19, 36]) (ng := []) (sy := []) rfl 300 16 _ _ _ _ h
theorem y_77_19 {m : z_M} {g : z_g} {Q : q_V → q_S → Prop} {a1 a2 : Int} (h :
    z_ok (m 70 6) ∧
    ((0 : Int) ≤ (m 70 6) →
      z_ok2 a2 (m 70 6) ∧
      (a2 ≤ (m 70 6) →
        z_C 78 [.inr (.inr 70), .inl a2] (z_st m g) (fun v S => z_T 77 36 [.inr (.inr 0), .inl a1, .inl a2] (q_push v []) S Q)) ∧
      ((m 70 6) < a2 →
        z_T 77 36 [.inr (.inr 0), .inl a1, .inl a2] [.inl (0 : Int)] (z_st m g) Q)) ∧
    ((m 70 6) < (0 : Int) →
      Q (.inl (-5 : Int)) (z_st m g))) :
    z_T 77 19 [.inr (.inr 0), .inl a1, .inl a2] [] (z_st m g) Q := y_wp_T (cd := q_c77) (cs := [3, 11, 16, 19, 36]) (ng := []) (sy := []) rfl 300 19 _ _ _ _ h
theorem y_77_36 {m : z_M} {g : z_g} {Q : q_V → q_S → Prop} {a1 a2 s0 : Int} (h :
    Q (.inl s0) (z_st m g)) :
    z_T 77 36 [.inr (.inr 0), .inl a1, .inl a2] [.inl s0] (z_st m g) Q := y_wp_T (cd := q_c77) (cs := [3, 11, 16, 19, 36]) (ng := []) (sy := []) rfl 300 36 _ _ _ _ h
theorem y_78P : q_P 78 = (q_c78, 2) := rfl
theorem y_78 {m : z_M} {g : z_g} {Q : q_V → q_S → Prop} {a1 : Int} (h :
    z_ok a1 ∧
    (a1 < (0 : Int) →
      Q (.inl (0 : Int)) (z_st m g)) ∧
    ((0 : Int) ≤ a1 →
      z_ok2 a1 (13 : Int) ∧
      (a1 < (13 : Int) →
        z_in a1 13 ∧
        Q (.inl (m 73 ((a1).toNat))) (z_st m g)) ∧
      ((13 : Int) ≤ a1 →
        Q (.inl (0 : Int)) (z_st m g)))) :
    z_C 78 [.inr (.inr 70), .inl a1] (z_st m g) Q := y_C_wp (cs := []) (ng := []) (sy := []) (n := 300) y_78P h
theorem y_79P : q_P 79 = (q_c79, 5) := rfl
theorem y_79 {m : z_M} {g : z_g} {Q : q_V → q_S → Prop} {a1 a2 a3 : Int} (h :
    z_C 45 [.inr (.inr 0), .inl a1] (z_st m g) (fun v S => z_T 79 3 [.inr (.inr 0), .inl a1, .inl a2, .inl a3, q_dead] (q_push v []) S Q)) :
    z_C 79 [.inr (.inr 0), .inl a1, .inl a2, .inl a3] (z_st m g) Q := y_C_wp (cs := [3, 9, 14, 41]) (ng := []) (sy := []) (n := 300) y_79P h
theorem y_79_3 {m : z_M} {g : z_g} {Q : q_V → q_S → Prop} {a1 a2 a3 s0 : Int} (h :
    z_ok s0 ∧
    (¬ s0 = (0 : Int) →
      z_C 49 [.inr (.inr 0), .inl a1] (z_st m g) (fun v S => z_T 79 9 [.inr (.inr 0), .inl a1, .inl a2, .inl a3, q_dead] (q_push v []) S Q)) ∧
    (s0 = (0 : Int) →
      Q (.inl (-1 : Int)) (z_st m g))) :
    z_T 79 3 [.inr (.inr 0), .inl a1, .inl a2, .inl a3, q_dead] [.inl s0] (z_st m g) Q := y_wp_T (cd := q_c79) (cs := [3, 9, 14, 41]) (ng := []) (sy := []) rfl 300 3 _ _ _ _ h
theorem y_79_9 {m : z_M} {g : z_g} {Q : q_V → q_S → Prop} {a1 a2 a3 : Int} (h :
    z_C 66 [.inr (.inr 70), .inr (.inr 65)] (z_st m g) (fun v S => z_T 79 14 [.inr (.inr 0), .inl a1, .inl a2, .inl a3, q_dead] (q_push v []) S Q)) :
    z_T 79 9 [.inr (.inr 0), .inl a1, .inl a2, .inl a3, q_dead] [] (z_st m g) Q := y_wp_T (cd := q_c79) (cs := [3, 9, 14, 41]) (ng := []) (sy := []) rfl 300 9 _ _ _ _ h
theorem y_79_14 {m : z_M} {g : z_g} {Q : q_V → q_S → Prop} {a1 a2 a3 : Int} (h :
    z_ok a2 ∧
    (a2 < (0 : Int) →
      Q (.inl (-1 : Int)) (z_st m g)) ∧
    ((0 : Int) ≤ a2 →
      z_ok2 a2 (((2 : Int) * (m 70 1)) - (1 : Int)) ∧
      ((((2 : Int) * (m 70 1)) - (1 : Int)) ≤ a2 →
        Q (.inl (-1 : Int)) (z_st m g)) ∧
      (a2 < (((2 : Int) * (m 70 1)) - (1 : Int)) →
        z_ok a3 ∧
        (a3 < (0 : Int) →
          Q (.inl (-1 : Int)) (z_st m g)) ∧
        ((0 : Int) ≤ a3 →
          z_ok2 a3 (((2 : Int) * (m 70 1)) - (1 : Int)) ∧
          (a3 < (((2 : Int) * (m 70 1)) - (1 : Int)) →
            z_C 80 [.inr (.inr 75), .inr (.inr 70), .inl a2, .inl a3] (z_st m g) (fun v S => z_T 79 41 [.inr (.inr 0), .inl a1, .inl a2, .inl a3, .inl (((2 : Int) * (m 70 1)) - (1 : Int))] (q_push v []) S Q)) ∧
          ((((2 : Int) * (m 70 1)) - (1 : Int)) ≤ a3 →
            Q (.inl (-1 : Int)) (z_st m g)))))) :
    z_T 79 14 [.inr (.inr 0), .inl a1, .inl a2, .inl a3, q_dead] [] (z_st m g) Q := y_wp_T (cd := q_c79) (cs := [3, 9, 14, 41]) (ng := []) (sy := []) rfl 300 14 _ _ _ _ h
theorem y_79_41 {m : z_M} {g : z_g} {Q : q_V → q_S → Prop} {a1 a2 a3 a4 s0 : Int} (h :
    Q (.inl s0) (z_st m g)) :
    z_T 79 41 [.inr (.inr 0), .inl a1, .inl a2, .inl a3, .inl a4] [.inl s0] (z_st m g) Q := y_wp_T (cd := q_c79) (cs := [3, 9, 14, 41]) (ng := []) (sy := []) rfl 300 41 _ _ _ _ h
theorem y_80P : q_P 80 = (q_c80, 6) := rfl
theorem y_80 {m : z_M} {g : z_g} {Q : q_V → q_S → Prop} {a2 a3 : Int} (h :
    z_ok2 a2 ((m 70 1) - (1 : Int)) ∧
    (((m 70 1) - (1 : Int)) ≤ a2 →
      z_ok2 a3 (a2 - ((m 70 1) - (1 : Int))) ∧
      ((a2 - ((m 70 1) - (1 : Int))) ≤ a3 →
        z_C 82 [.inr (.inr 70), .inl (((m 70 1) - (1 : Int)) - (a3 - (a2 - ((m 70 1) - (1 : Int)))))] (z_st m g) (fun v S => z_T 80 41 [.inr (.inr 75), .inr (.inr 70), .inl a2, .inl a3, .inl (m 70 1), .inl (a2 - ((m 70 1) - (1 : Int)))] (q_push v []) S Q)) ∧
      (a3 < (a2 - ((m 70 1) - (1 : Int))) →
        z_T 80 41 [.inr (.inr 75), .inr (.inr 70), .inl a2, .inl a3, .inl (m 70 1), .inl (a2 - ((m 70 1) - (1 : Int)))] [.inl (0 : Int)] (z_st m g) Q)) ∧
    (a2 < ((m 70 1) - (1 : Int)) →
      z_ok2 a3 a2 ∧
      (a2 ≤ a3 →
        z_C 81 [.inr (.inr 70), .inl ((m 70 1) - (a3 - a2))] (z_st m g) (fun v S => z_T 80 20 [.inr (.inr 75), .inr (.inr 70), .inl a2, .inl a3, .inl (m 70 1), q_dead] (q_push v []) S Q)) ∧
      (a3 < a2 →
        z_T 80 20 [.inr (.inr 75), .inr (.inr 70), .inl a2, .inl a3, .inl (m 70 1), q_dead] [.inl (0 : Int)] (z_st m g) Q))) :
    z_C 80 [.inr (.inr 75), .inr (.inr 70), .inl a2, .inl a3] (z_st m g) Q := y_C_wp (cs := [20, 41]) (ng := []) (sy := []) (n := 300) y_80P h
theorem y_80_20 {m : z_M} {g : z_g} {Q : q_V → q_S → Prop} {a2 a3 a4 s0 : Int} (h :
    Q (.inl s0) (z_st m g)) :
    z_T 80 20 [.inr (.inr 75), .inr (.inr 70), .inl a2, .inl a3, .inl a4, q_dead] [.inl s0] (z_st m g) Q := y_wp_T (cd := q_c80) (cs := [20, 41]) (ng := []) (sy := []) rfl 300 20 _ _ _ _ h
theorem y_80_41 {m : z_M} {g : z_g} {Q : q_V → q_S → Prop} {a2 a3 a4 a5 s0 : Int} (h :
    Q (.inl s0) (z_st m g)) :
    z_T 80 41 [.inr (.inr 75), .inr (.inr 70), .inl a2, .inl a3, .inl a4, .inl a5] [.inl s0] (z_st m g) Q := y_wp_T (cd := q_c80) (cs := [20, 41]) (ng := []) (sy := []) rfl 300 41 _ _ _ _ h
theorem y_81P : q_P 81 = (q_c81, 2) := rfl
theorem y_81 {m : z_M} {g : z_g} {Q : q_V → q_S → Prop} {a1 : Int} (h :
    z_ok a1 ∧
    (a1 < (0 : Int) →
      Q (.inl (0 : Int)) (z_st m g)) ∧
    ((0 : Int) ≤ a1 →
      z_ok2 a1 (13 : Int) ∧
      (a1 < (13 : Int) →
        z_in a1 13 ∧
        Q (.inl (m 71 ((a1).toNat))) (z_st m g)) ∧
      ((13 : Int) ≤ a1 →
        Q (.inl (0 : Int)) (z_st m g)))) :
    z_C 81 [.inr (.inr 70), .inl a1] (z_st m g) Q := y_C_wp (cs := []) (ng := []) (sy := []) (n := 300) y_81P h
theorem y_82P : q_P 82 = (q_c82, 2) := rfl
theorem y_82 {m : z_M} {g : z_g} {Q : q_V → q_S → Prop} {a1 : Int} (h :
    z_ok a1 ∧
    (a1 < (0 : Int) →
      Q (.inl (0 : Int)) (z_st m g)) ∧
    ((0 : Int) ≤ a1 →
      z_ok2 a1 (13 : Int) ∧
      (a1 < (13 : Int) →
        z_in a1 13 ∧
        Q (.inl (m 72 ((a1).toNat))) (z_st m g)) ∧
      ((13 : Int) ≤ a1 →
        Q (.inl (0 : Int)) (z_st m g)))) :
    z_C 82 [.inr (.inr 70), .inl a1] (z_st m g) Q := y_C_wp (cs := []) (ng := []) (sy := []) (n := 300) y_82P h
theorem y_83P : q_P 83 = (q_c83, 2) := rfl
theorem y_83 {m : z_M} {g : z_g} {Q : q_V → q_S → Prop} {a1 : Int} (h :
    z_C 45 [.inr (.inr 0), .inl a1] (z_st m g) (fun v S => z_T 83 3 [.inr (.inr 0), .inl a1] (q_push v []) S Q)) :
    z_C 83 [.inr (.inr 0), .inl a1] (z_st m g) Q := y_C_wp (cs := [3, 9, 11]) (ng := []) (sy := []) (n := 300) y_83P h
theorem y_83_3 {m : z_M} {g : z_g} {Q : q_V → q_S → Prop} {a1 s0 : Int} (h :
    z_ok s0 ∧
    (¬ s0 = (0 : Int) →
      z_C 49 [.inr (.inr 0), .inl a1] (z_st m g) (fun v S => z_T 83 9 [.inr (.inr 0), .inl a1] (q_push v []) S Q)) ∧
    (s0 = (0 : Int) →
      Q (.inl (-1 : Int)) (z_st m g))) :
    z_T 83 3 [.inr (.inr 0), .inl a1] [.inl s0] (z_st m g) Q := y_wp_T (cd := q_c83) (cs := [3, 9, 11]) (ng := []) (sy := []) rfl 300 3 _ _ _ _ h
theorem y_83_9 {m : z_M} {g : z_g} {Q : q_V → q_S → Prop} {a1 : Int} (h :
    z_C 84 [.inr (.inr 0)] (z_st m g) (fun v S => z_T 83 11 [.inr (.inr 0), .inl a1] (q_push v []) S Q)) :
    z_T 83 9 [.inr (.inr 0), .inl a1] [] (z_st m g) Q := y_wp_T (cd := q_c83) (cs := [3, 9, 11]) (ng := []) (sy := []) rfl 300 9 _ _ _ _ h
theorem y_83_11 {m : z_M} {g : z_g} {Q : q_V → q_S → Prop} {a1 s0 : Int} (h :
    Q (.inl s0) (z_st m g)) :
    z_T 83 11 [.inr (.inr 0), .inl a1] [.inl s0] (z_st m g) Q := y_wp_T (cd := q_c83) (cs := [3, 9, 11]) (ng := []) (sy := []) rfl 300 11 _ _ _ _ h
theorem y_84P : q_P 84 = (q_c84, 1) := rfl
theorem y_84 {m : z_M} {g : z_g} {Q : q_V → q_S → Prop} (h :
    z_C 66 [.inr (.inr 70), .inr (.inr 65)] (z_st m g) (fun v S => z_T 84 5 [.inr (.inr 0)] (q_push v []) S Q)) :
    z_C 84 [.inr (.inr 0)] (z_st m g) Q := y_C_wp (cs := [5, 10, 13]) (ng := []) (sy := []) (n := 300) y_84P h
theorem y_84_5 {m : z_M} {g : z_g} {Q : q_V → q_S → Prop} (h :
    z_C 85 [.inr (.inr 75), .inr (.inr 70)] (z_st m g) (fun v S => z_T 84 10 [.inr (.inr 0)] (q_push v []) S Q)) :
    z_T 84 5 [.inr (.inr 0)] [] (z_st m g) Q := y_wp_T (cd := q_c84) (cs := [5, 10, 13]) (ng := []) (sy := []) rfl 300 5 _ _ _ _ h
theorem y_84_10 {m : z_M} {g : z_g} {Q : q_V → q_S → Prop} (h :
    z_C 87 [.inr (.inr 75)] (z_st m g) (fun v S => z_T 84 13 [.inr (.inr 0)] (q_push v []) S Q)) :
    z_T 84 10 [.inr (.inr 0)] [] (z_st m g) Q := y_wp_T (cd := q_c84) (cs := [5, 10, 13]) (ng := []) (sy := []) rfl 300 10 _ _ _ _ h
theorem y_84_13 {m : z_M} {g : z_g} {Q : q_V → q_S → Prop} {s0 : Int} (h :
    Q (.inl s0) (z_st m g)) :
    z_T 84 13 [.inr (.inr 0)] [.inl s0] (z_st m g) Q := y_wp_T (cd := q_c84) (cs := [5, 10, 13]) (ng := []) (sy := []) rfl 300 13 _ _ _ _ h
theorem y_85P : q_P 85 = (q_c85, 4) := rfl
theorem y_85 {m : z_M} {g : z_g} {Q : q_V → q_S → Prop} (h :
    z_C 86 [.inl (((2 : Int) * (m 70 1)) - (1 : Int)), .inl (23 : Int)] (z_st m g) (fun v S => z_T 85 11 [.inr (.inr 75), .inr (.inr 70), q_dead, q_dead] (q_push v [.inr (.inr 75)]) S Q)) :
    z_C 85 [.inr (.inr 75), .inr (.inr 70)] (z_st m g) Q := y_C_wp (cs := [11, 14, 20, 34]) (ng := []) (sy := []) (n := 300) y_85P h
theorem y_85_11 {m : z_M} {g : z_g} {Q : q_V → q_S → Prop} {s0 : Int} (h :
    z_T 85 14 [.inr (.inr 75), .inr (.inr 70), .inl (0 : Int), q_dead] [] (z_st (q_upd m 75 2 s0) g) Q) :
    z_T 85 11 [.inr (.inr 75), .inr (.inr 70), q_dead, q_dead] [.inl s0, .inr (.inr 75)] (z_st m g) Q := y_wp_T (cd := q_c85) (cs := [11, 14, 20, 34]) (ng := []) (sy := []) rfl 300 11 _ _ _ _ h
theorem y_85_14 {m : z_M} {g : z_g} {Q : q_V → q_S → Prop} {a2 : Int} {da3 : q_V} (h :
    z_ok2 a2 (m 75 2) ∧
    ((m 75 2) ≤ a2 →
      Q q_dead (z_st m g)) ∧
    (a2 < (m 75 2) →
      z_T 85 20 [.inr (.inr 75), .inr (.inr 70), .inl a2, .inl (0 : Int)] [] (z_st m g) Q)) :
    z_T 85 14 [.inr (.inr 75), .inr (.inr 70), .inl a2, da3] [] (z_st m g) Q := y_wp_T (cd := q_c85) (cs := [11, 14, 20, 34]) (ng := []) (sy := []) rfl 300 14 _ _ _ _ h
theorem y_85_20 {m : z_M} {g : z_g} {Q : q_V → q_S → Prop} {a2 a3 : Int} (h :
    z_ok2 a3 (m 75 2) ∧
    ((m 75 2) ≤ a3 →
      z_T 85 14 [.inr (.inr 75), .inr (.inr 70), .inl (a2 + (1 : Int)), .inl a3] [] (z_st m g) Q) ∧
    (a3 < (m 75 2) →
      z_rw (q_rfz g.1 g.2.1) 76 a2 23 ∧
      z_C 80 [.inr (.inr 75), .inr (.inr 70), .inl a2, .inl a3] (z_st m g) (fun v S => z_T 85 34 [.inr (.inr 75), .inr (.inr 70), .inl a2, .inl a3] (q_push v [.inl a3, .inr (.inr (77 + (a2).toNat))]) S Q))) :
    z_T 85 20 [.inr (.inr 75), .inr (.inr 70), .inl a2, .inl a3] [] (z_st m g) Q := y_wp_T (cd := q_c85) (cs := [11, 14, 20, 34]) (ng := []) (sy := []) rfl 300 20 _ _ _ _ h
theorem y_85_34 {m : z_M} {g : z_g} {Q : q_V → q_S → Prop} {a2 a3 s0 s1 : Int} {os2 : Nat} (h :
    z_sp (q_sh0 ++ g.2.2.1) os2 0 23 ∧ z_in s1 23 ∧
    z_T 85 20 [.inr (.inr 75), .inr (.inr 70), .inl a2, .inl (a3 + (1 : Int))] [] (z_st (q_upd m os2 ((s1).toNat) s0) g) Q) :
    z_T 85 34 [.inr (.inr 75), .inr (.inr 70), .inl a2, .inl a3] [.inl s0, .inl s1, .inr (.inr os2)] (z_st m g) Q := y_wp_T (cd := q_c85) (cs := [11, 14, 20, 34]) (ng := []) (sy := [(34, 23)]) rfl 300 34 _ _ _ _ h
theorem y_86P : q_P 86 = (q_c86, 2) := rfl
theorem y_86 {m : z_M} {g : z_g} {Q : q_V → q_S → Prop} {a0 a1 : Int} (h :
    z_ok2 a0 a1 ∧
    (a1 < a0 →
      Q (.inl a1) (z_st m g)) ∧
    (a0 ≤ a1 →
      Q (.inl a0) (z_st m g))) :
    z_C 86 [.inl a0, .inl a1] (z_st m g) Q := y_C_wp (cs := []) (ng := []) (sy := []) (n := 300) y_86P h
theorem y_87P : q_P 87 = (q_c87, 4) := rfl
theorem y_87 {m : z_M} {g : z_g} {Q : q_V → q_S → Prop} (h :
    z_T 87 4 [.inr (.inr 75), .inl (1 : Int), .inl (0 : Int), q_dead] [] (z_st m g) Q) :
    z_C 87 [.inr (.inr 75)] (z_st m g) Q := y_C_wp (cs := [4, 15, 30, 35, 46, 50]) (ng := []) (sy := []) (n := 300) y_87P h
theorem y_87_4 {m : z_M} {g : z_g} {Q : q_V → q_S → Prop} {a1 a2 : Int} {da3 : q_V} (h :
    z_ok2 a2 (m 75 2) ∧
    ((m 75 2) ≤ a2 →
      Q (.inl a1) (z_st m g)) ∧
    (a2 < (m 75 2) →
      z_C 88 [.inr (.inr 76), .inl a2, .inl a2, .inl (m 75 2)] (z_st m g) (fun v S => z_T 87 15 [.inr (.inr 75), .inl a1, .inl a2, da3] (q_push v []) S Q))) :
    z_T 87 4 [.inr (.inr 75), .inl a1, .inl a2, da3] [] (z_st m g) Q := y_wp_T (cd := q_c87) (cs := [4, 15, 30, 35, 46, 50]) (ng := []) (sy := []) rfl 300 4 _ _ _ _ h
theorem y_87_15 {m : z_M} {g : z_g} {Q : q_V → q_S → Prop} {a1 a2 s0 : Int} {da3 : q_V} (h :
    z_ok s0 ∧
    ((0 : Int) ≤ s0 →
      z_ok2 s0 a2 ∧
      (s0 = a2 →
        z_rw (q_rfz g.1 g.2.1) 76 a2 23 ∧
        z_sp (q_sh0 ++ g.2.2.1) (77 + (a2).toNat) 0 23 ∧ z_in a2 23 ∧
        z_C 68 [.inr (.inr 29), .inl a1, .inl (m (77 + (a2).toNat) ((a2).toNat))] (z_st m g) (fun v S => z_T 87 46 [.inr (.inr 75), .inl a1, .inl a2, .inl s0] (q_push v []) S Q)) ∧
      (¬ s0 = a2 →
        z_C 89 [.inr (.inr 76), .inl s0, .inl a2, .inl (m 75 2)] (z_st m g) (fun v S => z_T 87 30 [.inr (.inr 75), .inl a1, .inl a2, .inl s0] (q_push v []) S Q))) ∧
    (s0 < (0 : Int) →
      Q (.inl (0 : Int)) (z_st m g))) :
    z_T 87 15 [.inr (.inr 75), .inl a1, .inl a2, da3] [.inl s0] (z_st m g) Q := y_wp_T (cd := q_c87) (cs := [4, 15, 30, 35, 46, 50]) (ng := []) (sy := [(44, 23)]) rfl 300 15 _ _ _ _ h
theorem y_87_30 {m : z_M} {g : z_g} {Q : q_V → q_S → Prop} {a1 a2 a3 : Int} (h :
    z_C 52 [.inr (.inr 29), .inl (-a1)] (z_st m g) (fun v S => z_T 87 35 [.inr (.inr 75), .inl a1, .inl a2, .inl a3] (q_push v []) S Q)) :
    z_T 87 30 [.inr (.inr 75), .inl a1, .inl a2, .inl a3] [] (z_st m g) Q := y_wp_T (cd := q_c87) (cs := [4, 15, 30, 35, 46, 50]) (ng := []) (sy := []) rfl 300 30 _ _ _ _ h
theorem y_87_35 {m : z_M} {g : z_g} {Q : q_V → q_S → Prop} {a1 a2 a3 s0 : Int} (h :
    z_rw (q_rfz g.1 g.2.1) 76 a2 23 ∧
    z_sp (q_sh0 ++ g.2.2.1) (77 + (a2).toNat) 0 23 ∧ z_in a2 23 ∧
    z_C 68 [.inr (.inr 29), .inl s0, .inl (m (77 + (a2).toNat) ((a2).toNat))] (z_st m g) (fun v S => z_T 87 46 [.inr (.inr 75), .inl s0, .inl a2, .inl a3] (q_push v []) S Q)) :
    z_T 87 35 [.inr (.inr 75), .inl a1, .inl a2, .inl a3] [.inl s0] (z_st m g) Q := y_wp_T (cd := q_c87) (cs := [4, 15, 30, 35, 46, 50]) (ng := []) (sy := [(44, 23)]) rfl 300 35 _ _ _ _ h
theorem y_87_46 {m : z_M} {g : z_g} {Q : q_V → q_S → Prop} {a1 a2 a3 s0 : Int} (h :
    z_C 90 [.inr (.inr 75), .inl a2] (z_st m g) (fun v S => z_T 87 50 [.inr (.inr 75), .inl s0, .inl a2, .inl a3] (q_push v []) S Q)) :
    z_T 87 46 [.inr (.inr 75), .inl a1, .inl a2, .inl a3] [.inl s0] (z_st m g) Q := y_wp_T (cd := q_c87) (cs := [4, 15, 30, 35, 46, 50]) (ng := []) (sy := []) rfl 300 46 _ _ _ _ h
theorem y_87_50 {m : z_M} {g : z_g} {Q : q_V → q_S → Prop} {a1 a2 a3 : Int} (h :
    z_T 87 4 [.inr (.inr 75), .inl a1, .inl (a2 + (1 : Int)), .inl a3] [] (z_st m g) Q) :
    z_T 87 50 [.inr (.inr 75), .inl a1, .inl a2, .inl a3] [] (z_st m g) Q := y_wp_T (cd := q_c87) (cs := [4, 15, 30, 35, 46, 50]) (ng := []) (sy := []) rfl 300 50 _ _ _ _ h
theorem y_88aP : q_P 88 = (q_c88, 5) := rfl
theorem y_88a {m : z_M} {g : z_g} {Q : q_V → q_S → Prop} {a1 a2 a3 : Int} (h :
    z_T 88 2 [.inr (.inr 76), .inl a1, .inl a2, .inl a3, .inl a2] [] (z_st m g) Q) :
    z_C 88 [.inr (.inr 76), .inl a1, .inl a2, .inl a3] (z_st m g) Q := y_C_wp (cs := [2]) (ng := []) (sy := []) (n := 300) y_88aP h
theorem y_88a_2 {m : z_M} {g : z_g} {Q : q_V → q_S → Prop} {a1 a2 a3 a4 : Int} (h :
    z_ok2 a4 a3 ∧
    (a3 ≤ a4 →
      Q (.inl (-1 : Int)) (z_st m g)) ∧
    (a4 < a3 →
      z_rw (q_rfz g.1 g.2.1) 76 a4 23 ∧
      z_sp (q_sh0 ++ g.2.2.1) (77 + (a4).toNat) 0 23 ∧ z_in a1 23 ∧
      z_ok (m (77 + (a4).toNat) ((a1).toNat)) ∧
      ((m (77 + (a4).toNat) ((a1).toNat)) = (0 : Int) →
        z_T 88 2 [.inr (.inr 76), .inl a1, .inl a2, .inl a3, .inl (a4 + (1 : Int))] [] (z_st m g) Q) ∧
      (¬ (m (77 + (a4).toNat) ((a1).toNat)) = (0 : Int) →
        Q (.inl a4) (z_st m g)))) :
    z_T 88 2 [.inr (.inr 76), .inl a1, .inl a2, .inl a3, .inl a4] [] (z_st m g) Q := y_wp_T (cd := q_c88) (cs := [2]) (ng := []) (sy := [(9, 23)]) rfl 300 2 _ _ _ _ h
theorem y_88bP : q_P 88 = (q_c88, 5) := rfl
theorem y_88b {m : z_M} {g : z_g} {Q : q_V → q_S → Prop} {a1 a2 a3 : Int} (h :
    z_T 88 2 [.inr (.inr 101), .inl a1, .inl a2, .inl a3, .inl a2] [] (z_st m g) Q) :
    z_C 88 [.inr (.inr 101), .inl a1, .inl a2, .inl a3] (z_st m g) Q := y_C_wp (cs := [2]) (ng := []) (sy := []) (n := 300) y_88bP h
theorem y_88b_2 {m : z_M} {g : z_g} {Q : q_V → q_S → Prop} {a1 a2 a3 a4 : Int} (h :
    z_ok2 a4 a3 ∧
    (a3 ≤ a4 →
      Q (.inl (-1 : Int)) (z_st m g)) ∧
    (a4 < a3 →
      z_rw (q_rfz g.1 g.2.1) 101 a4 6 ∧
      z_sp (q_sh0 ++ g.2.2.1) (102 + (a4).toNat) 0 5 ∧ z_in a1 5 ∧
      z_ok (m (102 + (a4).toNat) ((a1).toNat)) ∧
      ((m (102 + (a4).toNat) ((a1).toNat)) = (0 : Int) →
        z_T 88 2 [.inr (.inr 101), .inl a1, .inl a2, .inl a3, .inl (a4 + (1 : Int))] [] (z_st m g) Q) ∧
      (¬ (m (102 + (a4).toNat) ((a1).toNat)) = (0 : Int) →
        Q (.inl a4) (z_st m g)))) :
    z_T 88 2 [.inr (.inr 101), .inl a1, .inl a2, .inl a3, .inl a4] [] (z_st m g) Q := y_wp_T (cd := q_c88) (cs := [2]) (ng := []) (sy := [(9, 5)]) rfl 300 2 _ _ _ _ h
theorem y_89aP : q_P 89 = (q_c89, 6) := rfl
theorem y_89a {m : z_M} {g : z_g} {Q : q_V → q_S → Prop} {a1 a2 a3 : Int} (h :
    z_T 89 2 [.inr (.inr 76), .inl a1, .inl a2, .inl a3, .inl (0 : Int), q_dead] [] (z_st m g) Q) :
    z_C 89 [.inr (.inr 76), .inl a1, .inl a2, .inl a3] (z_st m g) Q := y_C_wp (cs := [2]) (ng := []) (sy := []) (n := 300) y_89aP h
theorem y_89a_2 {m : z_M} {g : z_g} {Q : q_V → q_S → Prop} {a1 a2 a3 a4 : Int} {da5 : q_V} (h :
    z_ok2 a4 a3 ∧
    (a3 ≤ a4 →
      Q q_dead (z_st m g)) ∧
    (a4 < a3 →
      z_rw (q_rfz g.1 g.2.1) 76 a1 23 ∧
      z_sp (q_sh0 ++ g.2.2.1) (77 + (a1).toNat) 0 23 ∧ z_in a4 23 ∧
      z_rw (q_rfz g.1 g.2.1) 76 a1 23 ∧
      z_rw (q_rfz g.1 g.2.1) 76 a2 23 ∧
      z_sp (q_sh0 ++ g.2.2.1) (77 + (a2).toNat) 0 23 ∧ z_in a4 23 ∧
      z_sp (q_sh0 ++ g.2.2.1) (77 + (a1).toNat) 0 23 ∧ z_in a4 23 ∧
      z_rw (q_rfz g.1 g.2.1) 76 a2 23 ∧
      z_sp (q_sh0 ++ g.2.2.1) (77 + (a2).toNat) 0 23 ∧ z_in a4 23 ∧
      z_T 89 2 [.inr (.inr 76), .inl a1, .inl a2, .inl a3, .inl (a4 + (1 : Int)), .inl (m (77 + (a1).toNat) ((a4).toNat))] [] (z_st (q_upd (q_upd m (77 + (a1).toNat) ((a4).toNat) (m (77 + (a2).toNat) ((a4).toNat))) (77 + (a2).toNat) ((a4).toNat) (m (77 + (a1).toNat) ((a4).toNat))) g) Q)) :
    z_T 89 2 [.inr (.inr 76), .inl a1, .inl a2, .inl a3, .inl a4, da5] [] (z_st m g) Q := y_wp_T (cd := q_c89) (cs := [2]) (ng := []) (sy := [(9, 23), (19, 23), (20, 23), (26, 23)]) rfl 300 2 _ _ _ _ h
theorem y_89bP : q_P 89 = (q_c89, 6) := rfl
theorem y_89b {m : z_M} {g : z_g} {Q : q_V → q_S → Prop} {a1 a2 a3 : Int} (h :
    z_T 89 2 [.inr (.inr 101), .inl a1, .inl a2, .inl a3, .inl (0 : Int), q_dead] [] (z_st m g) Q) :
    z_C 89 [.inr (.inr 101), .inl a1, .inl a2, .inl a3] (z_st m g) Q := y_C_wp (cs := [2]) (ng := []) (sy := []) (n := 300) y_89bP h
theorem y_89b_2 {m : z_M} {g : z_g} {Q : q_V → q_S → Prop} {a1 a2 a3 a4 : Int} {da5 : q_V} (h :
    z_ok2 a4 a3 ∧
    (a3 ≤ a4 →
      Q q_dead (z_st m g)) ∧
    (a4 < a3 →
      z_rw (q_rfz g.1 g.2.1) 101 a1 6 ∧
      z_sp (q_sh0 ++ g.2.2.1) (102 + (a1).toNat) 0 5 ∧ z_in a4 5 ∧
      z_rw (q_rfz g.1 g.2.1) 101 a1 6 ∧
      z_rw (q_rfz g.1 g.2.1) 101 a2 6 ∧
      z_sp (q_sh0 ++ g.2.2.1) (102 + (a2).toNat) 0 5 ∧ z_in a4 5 ∧
      z_sp (q_sh0 ++ g.2.2.1) (102 + (a1).toNat) 0 5 ∧ z_in a4 5 ∧
      z_rw (q_rfz g.1 g.2.1) 101 a2 6 ∧
      z_sp (q_sh0 ++ g.2.2.1) (102 + (a2).toNat) 0 5 ∧ z_in a4 5 ∧
      z_T 89 2 [.inr (.inr 101), .inl a1, .inl a2, .inl a3, .inl (a4 + (1 : Int)), .inl (m (102 + (a1).toNat) ((a4).toNat))] [] (z_st (q_upd (q_upd m (102 + (a1).toNat) ((a4).toNat) (m (102 + (a2).toNat) ((a4).toNat))) (102 + (a2).toNat) ((a4).toNat) (m (102 + (a1).toNat) ((a4).toNat))) g) Q)) :
    z_T 89 2 [.inr (.inr 101), .inl a1, .inl a2, .inl a3, .inl a4, da5] [] (z_st m g) Q := y_wp_T (cd := q_c89) (cs := [2]) (ng := []) (sy := [(9, 5), (19, 5), (20, 5), (26, 5)]) rfl 300 2 _ _ _ _ h
theorem y_90P : q_P 90 = (q_c90, 6) := rfl
theorem y_90 {m : z_M} {g : z_g} {Q : q_V → q_S → Prop} {a1 : Int} (h :
    z_rw (q_rfz g.1 g.2.1) 76 a1 23 ∧
    z_sp (q_sh0 ++ g.2.2.1) (77 + (a1).toNat) 0 23 ∧ z_in a1 23 ∧
    z_C 72 [.inr (.inr 29), .inl (m (77 + (a1).toNat) ((a1).toNat))] (z_st m g) (fun v S => z_T 90 9 [.inr (.inr 75), .inl a1, q_dead, q_dead, q_dead, q_dead] (q_push v []) S Q)) :
    z_C 90 [.inr (.inr 75), .inl a1] (z_st m g) Q := y_C_wp (cs := [9, 14, 28, 31, 60]) (ng := []) (sy := [(7, 23)]) (n := 300) y_90P h
theorem y_90_9 {m : z_M} {g : z_g} {Q : q_V → q_S → Prop} {a1 s0 : Int} (h :
    z_T 90 14 [.inr (.inr 75), .inl a1, .inl s0, .inl (a1 + (1 : Int)), q_dead, q_dead] [] (z_st m g) Q) :
    z_T 90 9 [.inr (.inr 75), .inl a1, q_dead, q_dead, q_dead, q_dead] [.inl s0] (z_st m g) Q := y_wp_T (cd := q_c90) (cs := [9, 14, 28, 31, 60]) (ng := []) (sy := []) rfl 300 9 _ _ _ _ h
theorem y_90_14 {m : z_M} {g : z_g} {Q : q_V → q_S → Prop} {a1 a2 a3 : Int} {da4 da5 : q_V} (h :
    z_ok2 a3 (m 75 2) ∧
    ((m 75 2) ≤ a3 →
      Q q_dead (z_st m g)) ∧
    (a3 < (m 75 2) →
      z_rw (q_rfz g.1 g.2.1) 76 a3 23 ∧
      z_sp (q_sh0 ++ g.2.2.1) (77 + (a3).toNat) 0 23 ∧ z_in a1 23 ∧
      z_C 68 [.inr (.inr 29), .inl (m (77 + (a3).toNat) ((a1).toNat)), .inl a2] (z_st m g) (fun v S => z_T 90 28 [.inr (.inr 75), .inl a1, .inl a2, .inl a3, da4, da5] (q_push v []) S Q))) :
    z_T 90 14 [.inr (.inr 75), .inl a1, .inl a2, .inl a3, da4, da5] [] (z_st m g) Q := y_wp_T (cd := q_c90) (cs := [9, 14, 28, 31, 60]) (ng := []) (sy := [(25, 23)]) rfl 300 14 _ _ _ _ h
theorem y_90_28 {m : z_M} {g : z_g} {Q : q_V → q_S → Prop} {a1 a2 a3 s0 : Int} {da4 da5 : q_V} (h :
    z_T 90 31 [.inr (.inr 75), .inl a1, .inl a2, .inl a3, .inl s0, .inl a1] [] (z_st m g) Q) :
    z_T 90 28 [.inr (.inr 75), .inl a1, .inl a2, .inl a3, da4, da5] [.inl s0] (z_st m g) Q := y_wp_T (cd := q_c90) (cs := [9, 14, 28, 31, 60]) (ng := []) (sy := []) rfl 300 28 _ _ _ _ h
theorem y_90_31 {m : z_M} {g : z_g} {Q : q_V → q_S → Prop} {a1 a2 a3 a4 a5 : Int} (h :
    z_ok a4 ∧
    (a4 = (0 : Int) →
      z_T 90 14 [.inr (.inr 75), .inl a1, .inl a2, .inl (a3 + (1 : Int)), .inl a4, .inl a5] [] (z_st m g) Q) ∧
    (¬ a4 = (0 : Int) →
      z_ok2 a5 (m 75 2) ∧
      ((m 75 2) ≤ a5 →
        z_T 90 14 [.inr (.inr 75), .inl a1, .inl a2, .inl (a3 + (1 : Int)), .inl a4, .inl a5] [] (z_st m g) Q) ∧
      (a5 < (m 75 2) →
        z_rw (q_rfz g.1 g.2.1) 76 a3 23 ∧
        z_rw (q_rfz g.1 g.2.1) 76 a3 23 ∧
        z_sp (q_sh0 ++ g.2.2.1) (77 + (a3).toNat) 0 23 ∧ z_in a5 23 ∧
        z_rw (q_rfz g.1 g.2.1) 76 a1 23 ∧
        z_sp (q_sh0 ++ g.2.2.1) (77 + (a1).toNat) 0 23 ∧ z_in a5 23 ∧
        z_C 52 [.inr (.inr 29), .inl ((m (77 + (a3).toNat) ((a5).toNat)) - (a4 * (m (77 + (a1).toNat) ((a5).toNat))))] (z_st m g) (fun v S => z_T 90 60 [.inr (.inr 75), .inl a1, .inl a2, .inl a3, .inl a4, .inl a5] (q_push v [.inl a5, .inr (.inr (77 + (a3).toNat))]) S Q)))) :
    z_T 90 31 [.inr (.inr 75), .inl a1, .inl a2, .inl a3, .inl a4, .inl a5] [] (z_st m g) Q := y_wp_T (cd := q_c90) (cs := [9, 14, 28, 31, 60]) (ng := []) (sy := [(49, 23), (56, 23)]) rfl 300 31 _ _ _ _ h
theorem y_90_60 {m : z_M} {g : z_g} {Q : q_V → q_S → Prop} {a1 a2 a3 a4 a5 s0 s1 : Int} {os2 : Nat} (h :
    z_sp (q_sh0 ++ g.2.2.1) os2 0 23 ∧ z_in s1 23 ∧
    z_T 90 31 [.inr (.inr 75), .inl a1, .inl a2, .inl a3, .inl a4, .inl (a5 + (1 : Int))] [] (z_st (q_upd m os2 ((s1).toNat) s0) g) Q) :
    z_T 90 60 [.inr (.inr 75), .inl a1, .inl a2, .inl a3, .inl a4, .inl a5] [.inl s0, .inl s1, .inr (.inr os2)] (z_st m g) Q := y_wp_T (cd := q_c90) (cs := [9, 14, 28, 31, 60]) (ng := []) (sy := [(60, 23)]) rfl 300 60 _ _ _ _ h
theorem y_91P : q_P 91 = (q_c91, 4) := rfl
theorem y_91 {m : z_M} {g : z_g} {Q : q_V → q_S → Prop} {a1 a2 a3 : Int} (h :
    z_C 24 [.inr (.inr 0), .inl a1] (z_st m g) (fun v S => z_T 91 3 [.inr (.inr 0), .inl a1, .inl a2, .inl a3] (q_push v []) S Q)) :
    z_C 91 [.inr (.inr 0), .inl a1, .inl a2, .inl a3] (z_st m g) Q := y_C_wp (cs := [3, 8, 14, 21, 32, 36, 39, 53, 56]) (ng := []) (sy := []) (n := 300) y_91P h
theorem y_91_3 {m : z_M} {g : z_g} {Q : q_V → q_S → Prop} {a1 a2 a3 s0 : Int} (h :
    z_ok s0 ∧
    (s0 = (0 : Int) →
      Q (.inl (-1 : Int)) (z_st m g)) ∧
    (¬ s0 = (0 : Int) →
      z_C 92 [.inr (.inr 114), .inl a3] (z_st m g) (fun v S => z_T 91 8 [.inr (.inr 0), .inl a1, .inl a2, .inl a3] (q_push v []) S Q))) :
    z_T 91 3 [.inr (.inr 0), .inl a1, .inl a2, .inl a3] [.inl s0] (z_st m g) Q := y_wp_T (cd := q_c91) (cs := [3, 8, 14, 21, 32, 36, 39, 53, 56]) (ng := []) (sy := []) rfl 300 3 _ _ _ _ h
theorem y_91_8 {m : z_M} {g : z_g} {Q : q_V → q_S → Prop} {a1 a2 a3 s0 : Int} (h :
    z_ok s0 ∧
    (¬ s0 = (0 : Int) →
      z_C 93 [.inr (.inr 0), .inl a2] (z_st m g) (fun v S => z_T 91 14 [.inr (.inr 0), .inl a1, .inl a2, .inl a3] (q_push v []) S Q)) ∧
    (s0 = (0 : Int) →
      Q (.inl (-1 : Int)) (z_st m g))) :
    z_T 91 8 [.inr (.inr 0), .inl a1, .inl a2, .inl a3] [.inl s0] (z_st m g) Q := y_wp_T (cd := q_c91) (cs := [3, 8, 14, 21, 32, 36, 39, 53, 56]) (ng := []) (sy := []) rfl 300 8 _ _ _ _ h
theorem y_91_14 {m : z_M} {g : z_g} {Q : q_V → q_S → Prop} {a1 a2 a3 s0 : Int} (h :
    z_ok s0 ∧
    (¬ s0 = (0 : Int) →
      z_C 94 [.inr (.inr 114), .inl a3] (z_st m g) (fun v S => z_T 91 21 [.inr (.inr 0), .inl a1, .inl a2, .inl a3] (q_push v []) S Q)) ∧
    (s0 = (0 : Int) →
      Q (.inl (-2 : Int)) (z_st m g))) :
    z_T 91 14 [.inr (.inr 0), .inl a1, .inl a2, .inl a3] [.inl s0] (z_st m g) Q := y_wp_T (cd := q_c91) (cs := [3, 8, 14, 21, 32, 36, 39, 53, 56]) (ng := []) (sy := []) rfl 300 14 _ _ _ _ h
theorem y_91_21 {m : z_M} {g : z_g} {Q : q_V → q_S → Prop} {a1 a2 a3 s0 : Int} (h :
    z_ok s0 ∧
    (¬ s0 = (0 : Int) →
      z_in a1 6 ∧
      z_C 25 [.inr (.inr 63), .inl (m 2 ((a1).toNat))] (z_st m g) (fun v S => z_T 91 32 [.inr (.inr 0), .inl a1, .inl a2, .inl a3] (q_push v []) S Q)) ∧
    (s0 = (0 : Int) →
      Q (.inl (-11 : Int)) (z_st m g))) :
    z_T 91 21 [.inr (.inr 0), .inl a1, .inl a2, .inl a3] [.inl s0] (z_st m g) Q := y_wp_T (cd := q_c91) (cs := [3, 8, 14, 21, 32, 36, 39, 53, 56]) (ng := []) (sy := []) rfl 300 21 _ _ _ _ h
theorem y_91_32 {m : z_M} {g : z_g} {Q : q_V → q_S → Prop} {a1 a2 a3 : Int} (h :
    z_C 95 [.inr (.inr 114), .inl a3] (z_st m g) (fun v S => z_T 91 36 [.inr (.inr 0), .inl a1, .inl a2, .inl a3] (q_push v []) S Q)) :
    z_T 91 32 [.inr (.inr 0), .inl a1, .inl a2, .inl a3] [] (z_st m g) Q := y_wp_T (cd := q_c91) (cs := [3, 8, 14, 21, 32, 36, 39, 53, 56]) (ng := []) (sy := []) rfl 300 32 _ _ _ _ h
theorem y_91_36 {m : z_M} {g : z_g} {Q : q_V → q_S → Prop} {a1 a2 a3 s0 : Int} (h :
    z_C 34 [.inr (.inr 63)] (z_st m g) (fun v S => z_T 91 39 [.inr (.inr 0), .inl a1, .inl a2, .inl a3] (q_push v [.inl s0]) S Q)) :
    z_T 91 36 [.inr (.inr 0), .inl a1, .inl a2, .inl a3] [.inl s0] (z_st m g) Q := y_wp_T (cd := q_c91) (cs := [3, 8, 14, 21, 32, 36, 39, 53, 56]) (ng := []) (sy := []) rfl 300 36 _ _ _ _ h
theorem y_91_39 {m : z_M} {g : z_g} {Q : q_V → q_S → Prop} {a1 a2 a3 s0 s1 : Int} (h :
    z_ok2 s1 s0 ∧
    (s0 ≤ s1 →
      z_ok2 (m 1 3) (6 : Int) ∧
      ((m 1 3) < (6 : Int) →
        z_C 96 [.inr (.inr 0), .inl a2, .inl a3] (z_st m g) (fun v S => z_T 91 53 [.inr (.inr 0), .inl a1, .inl a2, .inl a3] (q_push v []) S Q)) ∧
      ((6 : Int) ≤ (m 1 3) →
        Q (.inl (-4 : Int)) (z_st m g))) ∧
    (s1 < s0 →
      Q (.inl (-13 : Int)) (z_st m g))) :
    z_T 91 39 [.inr (.inr 0), .inl a1, .inl a2, .inl a3] [.inl s0, .inl s1] (z_st m g) Q := y_wp_T (cd := q_c91) (cs := [3, 8, 14, 21, 32, 36, 39, 53, 56]) (ng := []) (sy := []) rfl 300 39 _ _ _ _ h
theorem y_91_53 {m : z_M} {g : z_g} {Q : q_V → q_S → Prop} {a1 a2 a3 : Int} (h :
    z_C 103 [.inr (.inr 0), .inl a1] (z_st m g) (fun v S => z_T 91 56 [.inr (.inr 0), .inl a1, .inl a2, .inl a3] (q_push v []) S Q)) :
    z_T 91 53 [.inr (.inr 0), .inl a1, .inl a2, .inl a3] [] (z_st m g) Q := y_wp_T (cd := q_c91) (cs := [3, 8, 14, 21, 32, 36, 39, 53, 56]) (ng := []) (sy := []) rfl 300 53 _ _ _ _ h
theorem y_91_56 {m : z_M} {g : z_g} {Q : q_V → q_S → Prop} {a1 a2 a3 s0 : Int} (h :
    Q (.inl s0) (z_st m g)) :
    z_T 91 56 [.inr (.inr 0), .inl a1, .inl a2, .inl a3] [.inl s0] (z_st m g) Q := y_wp_T (cd := q_c91) (cs := [3, 8, 14, 21, 32, 36, 39, 53, 56]) (ng := []) (sy := []) rfl 300 56 _ _ _ _ h
theorem y_92P : q_P 92 = (q_c92, 2) := rfl
theorem y_92 {m : z_M} {g : z_g} {Q : q_V → q_S → Prop} {a1 : Int} (h :
    z_ok a1 ∧
    (a1 < (0 : Int) →
      Q (.inl (0 : Int)) (z_st m g)) ∧
    ((0 : Int) ≤ a1 →
      z_ok2 a1 (4 : Int) ∧
      ((4 : Int) ≤ a1 →
        Q (.inl (0 : Int)) (z_st m g)) ∧
      (a1 < (4 : Int) →
        Q (.inl (1 : Int)) (z_st m g)))) :
    z_C 92 [.inr (.inr 114), .inl a1] (z_st m g) Q := y_C_wp (cs := []) (ng := []) (sy := []) (n := 300) y_92P h
theorem y_93P : q_P 93 = (q_c93, 2) := rfl
theorem y_93 {m : z_M} {g : z_g} {Q : q_V → q_S → Prop} {a1 : Int} (h :
    z_ok2 a1 (1 : Int) ∧
    (a1 < (1 : Int) →
      Q (.inl (0 : Int)) (z_st m g)) ∧
    ((1 : Int) ≤ a1 →
      z_C 50 [.inr (.inr 1)] (z_st m g) (fun v S => z_T 93 7 [.inr (.inr 0), .inl a1] (q_push v [.inl a1]) S Q))) :
    z_C 93 [.inr (.inr 0), .inl a1] (z_st m g) Q := y_C_wp (cs := [7]) (ng := []) (sy := []) (n := 300) y_93P h
theorem y_93_7 {m : z_M} {g : z_g} {Q : q_V → q_S → Prop} {a1 s0 s1 : Int} (h :
    z_ok2 s1 s0 ∧
    (s0 ≤ s1 →
      Q (.inl (0 : Int)) (z_st m g)) ∧
    (s1 < s0 →
      Q (.inl (1 : Int)) (z_st m g))) :
    z_T 93 7 [.inr (.inr 0), .inl a1] [.inl s0, .inl s1] (z_st m g) Q := y_wp_T (cd := q_c93) (cs := [7]) (ng := []) (sy := []) rfl 300 7 _ _ _ _ h
theorem y_94P : q_P 94 = (q_c94, 2) := rfl
theorem y_94 {m : z_M} {g : z_g} {Q : q_V → q_S → Prop} {a1 : Int} (h :
    z_C 95 [.inr (.inr 114), .inl a1] (z_st m g) (fun v S => z_T 94 3 [.inr (.inr 114), .inl a1] (q_push v []) S Q)) :
    z_C 94 [.inr (.inr 114), .inl a1] (z_st m g) Q := y_C_wp (cs := [3]) (ng := []) (sy := []) (n := 300) y_94P h
theorem y_94_3 {m : z_M} {g : z_g} {Q : q_V → q_S → Prop} {a1 s0 : Int} (h :
    z_ok s0 ∧
    (s0 < (0 : Int) →
      Q (.inl (0 : Int)) (z_st m g)) ∧
    ((0 : Int) ≤ s0 →
      Q (.inl (1 : Int)) (z_st m g))) :
    z_T 94 3 [.inr (.inr 114), .inl a1] [.inl s0] (z_st m g) Q := y_wp_T (cd := q_c94) (cs := [3]) (ng := []) (sy := []) rfl 300 3 _ _ _ _ h
theorem y_95P : q_P 95 = (q_c95, 2) := rfl
theorem y_95 {m : z_M} {g : z_g} {Q : q_V → q_S → Prop} {a1 : Int} (h :
    z_C 92 [.inr (.inr 114), .inl a1] (z_st m g) (fun v S => z_T 95 3 [.inr (.inr 114), .inl a1] (q_push v []) S Q)) :
    z_C 95 [.inr (.inr 114), .inl a1] (z_st m g) Q := y_C_wp (cs := [3]) (ng := []) (sy := []) (n := 300) y_95P h
theorem y_95_3 {m : z_M} {g : z_g} {Q : q_V → q_S → Prop} {a1 s0 : Int} (h :
    z_ok s0 ∧
    (s0 = (0 : Int) →
      Q (.inl (-1 : Int)) (z_st m g)) ∧
    (¬ s0 = (0 : Int) →
      z_in a1 4 ∧
      Q (.inl (m 120 ((a1).toNat))) (z_st m g))) :
    z_T 95 3 [.inr (.inr 114), .inl a1] [.inl s0] (z_st m g) Q := y_wp_T (cd := q_c95) (cs := [3]) (ng := []) (sy := []) rfl 300 3 _ _ _ _ h
theorem y_96P : q_P 96 = (q_c96, 7) := rfl
theorem y_96 {m : z_M} {g : z_g} {Q : q_V → q_S → Prop} {a1 a2 : Int} (h :
    z_C 50 [.inr (.inr 1)] (z_st m g) (fun v S => z_T 96 5 [.inr (.inr 0), .inl a1, .inl a2, q_dead, q_dead, q_dead, q_dead] (q_push v [.inr (.inr 29)]) S Q)) :
    z_C 96 [.inr (.inr 0), .inl a1, .inl a2] (z_st m g) Q := y_C_wp (cs := [5, 6, 10, 12, 21, 25, 33, 34, 44, 47, 54, 67, 68, 69, 70]) (ng := []) (sy := []) (n := 300) y_96P h
theorem y_96_5 {m : z_M} {g : z_g} {Q : q_V → q_S → Prop} {a1 a2 s0 : Int} (h :
    z_C 51 [.inr (.inr 29), .inl s0] (z_st m g) (fun v S => z_T 96 6 [.inr (.inr 0), .inl a1, .inl a2, q_dead, q_dead, q_dead, q_dead] (q_push v []) S Q)) :
    z_T 96 5 [.inr (.inr 0), .inl a1, .inl a2, q_dead, q_dead, q_dead, q_dead] [.inl s0, .inr (.inr 29)] (z_st m g) Q := y_wp_T (cd := q_c96) (cs := [5, 6, 10, 12, 21, 25, 33, 34, 44, 47, 54, 67, 68, 69, 70]) (ng := []) (sy := []) rfl 300 5 _ _ _ _ h
theorem y_96_6 {m : z_M} {g : z_g} {Q : q_V → q_S → Prop} {a1 a2 : Int} (h :
    z_C 10 [.inr (.inr 130), .inl (0 : Int)] (z_st m g) (fun v S => z_T 96 10 [.inr (.inr 0), .inl a1, .inl a2, q_dead, q_dead, q_dead, q_dead] (q_push v []) S Q)) :
    z_T 96 6 [.inr (.inr 0), .inl a1, .inl a2, q_dead, q_dead, q_dead, q_dead] [] (z_st m g) Q := y_wp_T (cd := q_c96) (cs := [5, 6, 10, 12, 21, 25, 33, 34, 44, 47, 54, 67, 68, 69, 70]) (ng := []) (sy := []) rfl 300 6 _ _ _ _ h
theorem y_96_10 {m : z_M} {g : z_g} {Q : q_V → q_S → Prop} {a1 a2 : Int} (h :
    z_T 96 12 [.inr (.inr 0), .inl a1, .inl a2, .inl (0 : Int), q_dead, q_dead, q_dead] [] (z_st m g) Q) :
    z_T 96 10 [.inr (.inr 0), .inl a1, .inl a2, q_dead, q_dead, q_dead, q_dead] [] (z_st m g) Q := y_wp_T (cd := q_c96) (cs := [5, 6, 10, 12, 21, 25, 33, 34, 44, 47, 54, 67, 68, 69, 70]) (ng := []) (sy := []) rfl 300 10 _ _ _ _ h
theorem y_96_12 {m : z_M} {g : z_g} {Q : q_V → q_S → Prop} {a1 a2 a3 : Int} {da4 da5 da6 : q_V} (h :
    z_ok2 a3 (m 63 1) ∧
    ((m 63 1) ≤ a3 →
      Q q_dead (z_st m g)) ∧
    (a3 < (m 63 1) →
      z_T 96 21 [.inr (.inr 0), .inl a1, .inl a2, .inl a3, .inl (0 : Int), .inl (0 : Int), da6] [] (z_st m g) Q)) :
    z_T 96 12 [.inr (.inr 0), .inl a1, .inl a2, .inl a3, da4, da5, da6] [] (z_st m g) Q := y_wp_T (cd := q_c96) (cs := [5, 6, 10, 12, 21, 25, 33, 34, 44, 47, 54, 67, 68, 69, 70]) (ng := []) (sy := []) rfl 300 12 _ _ _ _ h
theorem y_96_21 {m : z_M} {g : z_g} {Q : q_V → q_S → Prop} {a1 a2 a3 a4 a5 : Int} {da6 : q_V} (h :
    z_C 34 [.inr (.inr 63)] (z_st m g) (fun v S => z_T 96 25 [.inr (.inr 0), .inl a1, .inl a2, .inl a3, .inl a4, .inl a5, da6] (q_push v [.inl a5]) S Q)) :
    z_T 96 21 [.inr (.inr 0), .inl a1, .inl a2, .inl a3, .inl a4, .inl a5, da6] [] (z_st m g) Q := y_wp_T (cd := q_c96) (cs := [5, 6, 10, 12, 21, 25, 33, 34, 44, 47, 54, 67, 68, 69, 70]) (ng := []) (sy := []) rfl 300 21 _ _ _ _ h
theorem y_96_25 {m : z_M} {g : z_g} {Q : q_V → q_S → Prop} {a1 a2 a3 a4 a5 s0 s1 : Int} {da6 : q_V} (h :
    z_ok2 s1 s0 ∧
    (s0 ≤ s1 →
      z_C 28 [.inr (.inr 63), .inl a3] (z_st m g) (fun v S => z_T 96 54 [.inr (.inr 0), .inl a1, .inl a2, .inl a3, .inl a4, .inl a5, da6] (q_push v []) S Q)) ∧
    (s1 < s0 →
      z_C 97 [.inr (.inr 114), .inl a2, .inl a5] (z_st m g) (fun v S => z_T 96 33 [.inr (.inr 0), .inl a1, .inl a2, .inl a3, .inl a4, .inl a5, da6] (q_push v [.inr (.inr 29)]) S Q))) :
    z_T 96 25 [.inr (.inr 0), .inl a1, .inl a2, .inl a3, .inl a4, .inl a5, da6] [.inl s0, .inl s1] (z_st m g) Q := y_wp_T (cd := q_c96) (cs := [5, 6, 10, 12, 21, 25, 33, 34, 44, 47, 54, 67, 68, 69, 70]) (ng := []) (sy := []) rfl 300 25 _ _ _ _ h
theorem y_96_33 {m : z_M} {g : z_g} {Q : q_V → q_S → Prop} {a1 a2 a3 a4 a5 s0 : Int} {da6 : q_V} (h :
    z_C 99 [.inr (.inr 29), .inr (.inl s0)] (z_st m g) (fun v S => z_T 96 34 [.inr (.inr 0), .inl a1, .inl a2, .inl a3, .inl a4, .inl a5, da6] (q_push v []) S Q)) :
    z_T 96 33 [.inr (.inr 0), .inl a1, .inl a2, .inl a3, .inl a4, .inl a5, da6] [.inr (.inl s0), .inr (.inr 29)] (z_st m g) Q := y_wp_T (cd := q_c96) (cs := [5, 6, 10, 12, 21, 25, 33, 34, 44, 47, 54, 67, 68, 69, 70]) (ng := []) (sy := []) rfl 300 33 _ _ _ _ h
theorem y_96_34 {m : z_M} {g : z_g} {Q : q_V → q_S → Prop} {a1 a2 a3 a4 a5 s0 : Int} {da6 : q_V} (h :
    z_C 38 [.inr (.inr 63), .inl a5, .inl a3] (z_st m g) (fun v S => z_T 96 44 [.inr (.inr 0), .inl a1, .inl a2, .inl a3, .inl a4, .inl a5, .inl s0] (q_push v [.inl s0, .inl a4, .inr (.inr 29)]) S Q)) :
    z_T 96 34 [.inr (.inr 0), .inl a1, .inl a2, .inl a3, .inl a4, .inl a5, da6] [.inl s0] (z_st m g) Q := y_wp_T (cd := q_c96) (cs := [5, 6, 10, 12, 21, 25, 33, 34, 44, 47, 54, 67, 68, 69, 70]) (ng := []) (sy := []) rfl 300 34 _ _ _ _ h
theorem y_96_44 {m : z_M} {g : z_g} {Q : q_V → q_S → Prop} {a1 a2 a3 a4 a5 a6 s0 s1 s2 : Int} (h :
    z_C 52 [.inr (.inr 29), .inl (s2 + (s1 * s0))] (z_st m g) (fun v S => z_T 96 47 [.inr (.inr 0), .inl a1, .inl a2, .inl a3, .inl a4, .inl a5, .inl a6] (q_push v []) S Q)) :
    z_T 96 44 [.inr (.inr 0), .inl a1, .inl a2, .inl a3, .inl a4, .inl a5, .inl a6] [.inl s0, .inl s1, .inl s2, .inr (.inr 29)] (z_st m g) Q := y_wp_T (cd := q_c96) (cs := [5, 6, 10, 12, 21, 25, 33, 34, 44, 47, 54, 67, 68, 69, 70]) (ng := []) (sy := []) rfl 300 44 _ _ _ _ h
theorem y_96_47 {m : z_M} {g : z_g} {Q : q_V → q_S → Prop} {a1 a2 a3 a4 a5 a6 s0 : Int} (h :
    z_T 96 21 [.inr (.inr 0), .inl a1, .inl a2, .inl a3, .inl s0, .inl (a5 + (1 : Int)), .inl a6] [] (z_st m g) Q) :
    z_T 96 47 [.inr (.inr 0), .inl a1, .inl a2, .inl a3, .inl a4, .inl a5, .inl a6] [.inl s0] (z_st m g) Q := y_wp_T (cd := q_c96) (cs := [5, 6, 10, 12, 21, 25, 33, 34, 44, 47, 54, 67, 68, 69, 70]) (ng := []) (sy := []) rfl 300 47 _ _ _ _ h
theorem y_96_54 {m : z_M} {g : z_g} {Q : q_V → q_S → Prop} {a1 a2 a3 a4 a5 s0 : Int} {da6 : q_V} (h :
    z_C 101 [.inr (.inr 29), .inl a1, .inl s0] (z_st m g) (fun v S => z_T 96 67 [.inr (.inr 0), .inl a1, .inl a2, .inl a3, .inl a4, .inl s0, da6] (q_push v [.inr (.inr 29), .inl a4, .inr (.inr 29), .inl s0, .inr (.inr 0)]) S Q)) :
    z_T 96 54 [.inr (.inr 0), .inl a1, .inl a2, .inl a3, .inl a4, .inl a5, da6] [.inl s0] (z_st m g) Q := y_wp_T (cd := q_c96) (cs := [5, 6, 10, 12, 21, 25, 33, 34, 44, 47, 54, 67, 68, 69, 70]) (ng := []) (sy := []) rfl 300 54 _ _ _ _ h
theorem y_96_67 {m : z_M} {g : z_g} {Q : q_V → q_S → Prop} {a1 a2 a3 a4 a5 s0 s2 s4 : Int} {da6 : q_V} (h :
    z_C 72 [.inr (.inr 29), .inl s0] (z_st m g) (fun v S => z_T 96 68 [.inr (.inr 0), .inl a1, .inl a2, .inl a3, .inl a4, .inl a5, da6] (q_push v [.inl s2, .inr (.inr 29), .inl s4, .inr (.inr 0)]) S Q)) :
    z_T 96 67 [.inr (.inr 0), .inl a1, .inl a2, .inl a3, .inl a4, .inl a5, da6] [.inl s0, .inr (.inr 29), .inl s2, .inr (.inr 29), .inl s4, .inr (.inr 0)] (z_st m g) Q := y_wp_T (cd := q_c96) (cs := [5, 6, 10, 12, 21, 25, 33, 34, 44, 47, 54, 67, 68, 69, 70]) (ng := []) (sy := []) rfl 300 67 _ _ _ _ h
theorem y_96_68 {m : z_M} {g : z_g} {Q : q_V → q_S → Prop} {a1 a2 a3 a4 a5 s0 s1 s3 : Int} {da6 : q_V} (h :
    z_C 68 [.inr (.inr 29), .inl s1, .inl s0] (z_st m g) (fun v S => z_T 96 69 [.inr (.inr 0), .inl a1, .inl a2, .inl a3, .inl a4, .inl a5, da6] (q_push v [.inl s3, .inr (.inr 0)]) S Q)) :
    z_T 96 68 [.inr (.inr 0), .inl a1, .inl a2, .inl a3, .inl a4, .inl a5, da6] [.inl s0, .inl s1, .inr (.inr 29), .inl s3, .inr (.inr 0)] (z_st m g) Q := y_wp_T (cd := q_c96) (cs := [5, 6, 10, 12, 21, 25, 33, 34, 44, 47, 54, 67, 68, 69, 70]) (ng := []) (sy := []) rfl 300 68 _ _ _ _ h
theorem y_96_69 {m : z_M} {g : z_g} {Q : q_V → q_S → Prop} {a1 a2 a3 a4 a5 s0 s1 : Int} {da6 : q_V} (h :
    z_C 102 [.inr (.inr 0), .inl s1, .inl s0] (z_st m g) (fun v S => z_T 96 70 [.inr (.inr 0), .inl a1, .inl a2, .inl a3, .inl a4, .inl a5, da6] (q_push v []) S Q)) :
    z_T 96 69 [.inr (.inr 0), .inl a1, .inl a2, .inl a3, .inl a4, .inl a5, da6] [.inl s0, .inl s1, .inr (.inr 0)] (z_st m g) Q := y_wp_T (cd := q_c96) (cs := [5, 6, 10, 12, 21, 25, 33, 34, 44, 47, 54, 67, 68, 69, 70]) (ng := []) (sy := []) rfl 300 69 _ _ _ _ h
theorem y_96_70 {m : z_M} {g : z_g} {Q : q_V → q_S → Prop} {a1 a2 a3 a4 a5 : Int} {da6 : q_V} (h :
    z_T 96 12 [.inr (.inr 0), .inl a1, .inl a2, .inl (a3 + (1 : Int)), .inl a4, .inl a5, da6] [] (z_st m g) Q) :
    z_T 96 70 [.inr (.inr 0), .inl a1, .inl a2, .inl a3, .inl a4, .inl a5, da6] [] (z_st m g) Q := y_wp_T (cd := q_c96) (cs := [5, 6, 10, 12, 21, 25, 33, 34, 44, 47, 54, 67, 68, 69, 70]) (ng := []) (sy := []) rfl 300 70 _ _ _ _ h
theorem y_97P : q_P 97 = (q_c97, 3) := rfl
theorem y_97 {m : z_M} {g : z_g} {Q : q_V → q_S → Prop} {a1 a2 : Int} (h :
    z_C 98 [.inr (.inr 114), .inl a1, .inl a2] (z_st m g) (fun v S => z_T 97 4 [.inr (.inr 114), .inl a1, .inl a2] (q_push v []) S Q)) :
    z_C 97 [.inr (.inr 114), .inl a1, .inl a2] (z_st m g) Q := y_C_wp (cs := [4]) (ng := []) (sy := []) (n := 300) y_97P h
theorem y_97_4 {m : z_M} {g : z_g} {Q : q_V → q_S → Prop} {a1 a2 s0 : Int} (h :
    z_ok s0 ∧
    (s0 = (0 : Int) →
      Q (.inr (.inl (0 : Int))) (z_st m g)) ∧
    (¬ s0 = (0 : Int) →
      z_rw (q_rfz g.1 g.2.1) 115 a1 4 ∧
      z_sp (q_sh0 ++ g.2.2.1) (116 + (a1).toNat) 1 20 ∧ z_in a2 20 ∧
      Q (.inr (.inl (m (116 + (a1).toNat) ((a2).toNat)))) (z_st m g))) :
    z_T 97 4 [.inr (.inr 114), .inl a1, .inl a2] [.inl s0] (z_st m g) Q := y_wp_T (cd := q_c97) (cs := [4]) (ng := []) (sy := [(10, 20)]) rfl 300 4 _ _ _ _ h
theorem y_98P : q_P 98 = (q_c98, 3) := rfl
theorem y_98 {m : z_M} {g : z_g} {Q : q_V → q_S → Prop} {a1 a2 : Int} (h :
    z_ok a2 ∧
    (a2 < (0 : Int) →
      Q (.inl (0 : Int)) (z_st m g)) ∧
    ((0 : Int) ≤ a2 →
      z_C 95 [.inr (.inr 114), .inl a1] (z_st m g) (fun v S => z_T 98 6 [.inr (.inr 114), .inl a1, .inl a2] (q_push v [.inl a2]) S Q))) :
    z_C 98 [.inr (.inr 114), .inl a1, .inl a2] (z_st m g) Q := y_C_wp (cs := [6]) (ng := []) (sy := []) (n := 300) y_98P h
theorem y_98_6 {m : z_M} {g : z_g} {Q : q_V → q_S → Prop} {a1 a2 s0 s1 : Int} (h :
    z_ok2 s1 s0 ∧
    (s0 ≤ s1 →
      Q (.inl (0 : Int)) (z_st m g)) ∧
    (s1 < s0 →
      Q (.inl (1 : Int)) (z_st m g))) :
    z_T 98 6 [.inr (.inr 114), .inl a1, .inl a2] [.inl s0, .inl s1] (z_st m g) Q := y_wp_T (cd := q_c98) (cs := [6]) (ng := []) (sy := []) rfl 300 6 _ _ _ _ h
theorem y_99P : q_P 99 = (q_c99, 3) := rfl
theorem y_99 {m : z_M} {g : z_g} {Q : q_V → q_S → Prop} {a1 : Int} (h :
    z_ok2 (m 29 0) (1 : Int) ∧
    ((1 : Int) ≤ (m 29 0) →
      z_ok (m 29 0) ∧
      z_C 100 [.inr (.inl a1), .inr (.inl (m 29 0))] (z_st m g) (fun v S => z_T 99 11 [.inr (.inr 29), .inr (.inl a1), q_dead] (q_push v []) S Q)) ∧
    ((m 29 0) < (1 : Int) →
      Q (.inl (0 : Int)) (z_st m g))) :
    z_C 99 [.inr (.inr 29), .inr (.inl a1)] (z_st m g) Q := y_C_wp (cs := [11]) (ng := []) (sy := []) (n := 300) y_99P h
theorem y_99_11 {m : z_M} {g : z_g} {Q : q_V → q_S → Prop} {a1 s0 : Int} (h :
    Q (.inl s0) (z_st m g)) :
    z_T 99 11 [.inr (.inr 29), .inr (.inl a1), q_dead] [.inr (.inl s0)] (z_st m g) Q := y_wp_T (cd := q_c99) (cs := [11]) (ng := []) (sy := []) rfl 300 11 _ _ _ _ h
theorem y_100P : q_P 100 = (q_c100, 6) := rfl
theorem y_100 {m : z_M} {g : z_g} {Q : q_V → q_S → Prop} {a0 a2 : Int} (h :
    z_dm a0 a2 ∧
    z_okl2 (q_lbin 5 a0 a2) (0 : Int) ∧
    z_ok (if q_lbin 5 a0 a2 < (0 : Int) then (-1 : Int) else if q_lbin 5 a0 a2 = (0 : Int) then 0 else 1) ∧
    ((0 : Int) ≤ (if q_lbin 5 a0 a2 < (0 : Int) then (-1 : Int) else if q_lbin 5 a0 a2 = (0 : Int) then 0 else 1) →
      Q (.inr (.inl ((a0).tmod a2))) (z_st m g)) ∧
    ((if q_lbin 5 a0 a2 < (0 : Int) then (-1 : Int) else if q_lbin 5 a0 a2 = (0 : Int) then 0 else 1) < (0 : Int) →
      z_okl2 ((a0).tmod a2) (0 : Int) ∧
      z_ok (if (a0).tmod a2 < (0 : Int) then (-1 : Int) else if (a0).tmod a2 = (0 : Int) then 0 else 1) ∧
      ((if (a0).tmod a2 < (0 : Int) then (-1 : Int) else if (a0).tmod a2 = (0 : Int) then 0 else 1) = (0 : Int) →
        Q (.inr (.inl ((a0).tmod a2))) (z_st m g)) ∧
      (¬ (if (a0).tmod a2 < (0 : Int) then (-1 : Int) else if (a0).tmod a2 = (0 : Int) then 0 else 1) = (0 : Int) →
        Q (.inr (.inl (((a0).tmod a2) + a2))) (z_st m g)))) :
    z_C 100 [.inr (.inl a0), .inr (.inl a2)] (z_st m g) Q := y_C_wp (cs := []) (ng := [2]) (sy := []) (n := 300) y_100P h
theorem y_101P : q_P 101 = (q_c101, 3) := rfl
theorem y_101 {m : z_M} {g : z_g} {Q : q_V → q_S → Prop} {a1 a2 : Int} (h :
    z_ok a1 ∧
    (a1 < (0 : Int) →
      Q (.inl (0 : Int)) (z_st m g)) ∧
    ((0 : Int) ≤ a1 →
      z_ok2 a1 (31 : Int) ∧
      ((31 : Int) ≤ a1 →
        Q (.inl (0 : Int)) (z_st m g)) ∧
      (a1 < (31 : Int) →
        z_ok a2 ∧
        (a2 < (0 : Int) →
          Q (.inl (0 : Int)) (z_st m g)) ∧
        ((0 : Int) ≤ a2 →
          z_ok2 a2 (12 : Int) ∧
          (a2 ≤ (12 : Int) →
            z_rw (q_rfz g.1 g.2.1) 30 a1 31 ∧
            z_sp (q_sh0 ++ g.2.2.1) (31 + (a1).toNat) 0 13 ∧ z_in a2 13 ∧
            Q (.inl (m (31 + (a1).toNat) ((a2).toNat))) (z_st m g)) ∧
          ((12 : Int) < a2 →
            Q (.inl (0 : Int)) (z_st m g)))))) :
    z_C 101 [.inr (.inr 29), .inl a1, .inl a2] (z_st m g) Q := y_C_wp (cs := []) (ng := []) (sy := [(19, 13)]) (n := 300) y_101P h
theorem y_102P : q_P 102 = (q_c102, 3) := rfl
theorem y_102 {m : z_M} {g : z_g} {Q : q_V → q_S → Prop} {a1 a2 : Int} (h :
    z_ok a1 ∧
    (a1 < (0 : Int) →
      Q q_dead (z_st m g)) ∧
    ((0 : Int) ≤ a1 →
      z_ok2 a1 (14 : Int) ∧
      ((14 : Int) ≤ a1 →
        Q q_dead (z_st m g)) ∧
      (a1 < (14 : Int) →
        z_in a1 14 ∧
        Q q_dead (z_st (q_upd m 130 ((a1).toNat) a2) g)))) :
    z_C 102 [.inr (.inr 0), .inl a1, .inl a2] (z_st m g) Q := y_C_wp (cs := []) (ng := []) (sy := []) (n := 300) y_102P h
theorem y_103P : q_P 103 = (q_c103, 3) := rfl
theorem y_103 {m : z_M} {g : z_g} {Q : q_V → q_S → Prop} {a1 : Int} (h :
    z_C 21 [.inr (.inr 109)] (z_st m g) (fun v S => z_T 103 3 [.inr (.inr 0), .inl a1, q_dead] (q_push v []) S Q)) :
    z_C 103 [.inr (.inr 0), .inl a1] (z_st m g) Q := y_C_wp (cs := [3, 9, 16]) (ng := []) (sy := []) (n := 300) y_103P h
theorem y_103_3 {m : z_M} {g : z_g} {Q : q_V → q_S → Prop} {a1 : Int} (h :
    z_C 42 [.inr (.inr 1), .inl a1, .inl (0 : Int), .inl (0 : Int)] (z_st m g) (fun v S => z_T 103 9 [.inr (.inr 0), .inl a1, q_dead] (q_push v []) S Q)) :
    z_T 103 3 [.inr (.inr 0), .inl a1, q_dead] [] (z_st m g) Q := y_wp_T (cd := q_c103) (cs := [3, 9, 16]) (ng := []) (sy := []) rfl 300 3 _ _ _ _ h
theorem y_103_9 {m : z_M} {g : z_g} {Q : q_V → q_S → Prop} {a1 s0 : Int} (h :
    z_C 104 [.inr (.inr 1), .inl s0, .inr (.inr 130)] (z_st m g) (fun v S => z_T 103 16 [.inr (.inr 0), .inl a1, .inl s0] (q_push v []) S Q)) :
    z_T 103 9 [.inr (.inr 0), .inl a1, q_dead] [.inl s0] (z_st m g) Q := y_wp_T (cd := q_c103) (cs := [3, 9, 16]) (ng := []) (sy := []) rfl 300 9 _ _ _ _ h
theorem y_103_16 {m : z_M} {g : z_g} {Q : q_V → q_S → Prop} {a1 a2 : Int} (h :
    Q (.inl a2) (z_st m g)) :
    z_T 103 16 [.inr (.inr 0), .inl a1, .inl a2] [] (z_st m g) Q := y_wp_T (cd := q_c103) (cs := [3, 9, 16]) (ng := []) (sy := []) rfl 300 16 _ _ _ _ h
theorem y_104P : q_P 104 = (q_c104, 3) := rfl
theorem y_104 {m : z_M} {g : z_g} {Q : q_V → q_S → Prop} {a1 : Int} (h :
    z_ok a1 ∧
    (a1 < (0 : Int) →
      Q q_dead (z_st m g)) ∧
    ((0 : Int) ≤ a1 →
      z_ok2 a1 (m 1 3) ∧
      ((m 1 3) ≤ a1 →
        Q q_dead (z_st m g)) ∧
      (a1 < (m 1 3) →
        z_ok2 (14 : Int) (12 : Int) ∧
        ((14 : Int) ≤ (12 : Int) →
          Q q_dead (z_st m g)) ∧
        ((12 : Int) < (14 : Int) →
          z_rw (q_rfz g.1 g.2.1) 6 a1 6 ∧
          (z_sp (q_sh0 ++ g.2.2.1) 130 0 14 ∧ z_sp (q_sh0 ++ g.2.2.1) (7 + (a1).toNat) 0 13) ∧ (0 ≤ (13 : Int) ∧ 0 ≤ (0 : Int) ∧ 0 ≤ (0 : Int) ∧ (0 : Int) + (13 : Int) ≤ ((14 : Nat) : Int) ∧ (0 : Int) + (13 : Int) ≤ ((13 : Nat) : Int)) ∧
          Q q_dead (z_st (q_cpy m 130 (((0 : Int)).toNat) (7 + (a1).toNat) (((0 : Int)).toNat) (((13 : Int)).toNat)) g))))) :
    z_C 104 [.inr (.inr 1), .inl a1, .inr (.inr 130)] (z_st m g) Q := y_C_wp (cs := []) (ng := []) (sy := [(18, 14), (10018, 13), (20018, 0)]) (n := 300) y_104P h
theorem y_105P : q_P 105 = (q_c105, 3) := rfl
theorem y_105 {m : z_M} {g : z_g} {Q : q_V → q_S → Prop} {a1 a2 : Int} (h :
    z_C 45 [.inr (.inr 0), .inl a1] (z_st m g) (fun v S => z_T 105 3 [.inr (.inr 0), .inl a1, .inl a2] (q_push v []) S Q)) :
    z_C 105 [.inr (.inr 0), .inl a1, .inl a2] (z_st m g) Q := y_C_wp (cs := [3, 9, 15, 21]) (ng := []) (sy := []) (n := 300) y_105P h
theorem y_105_3 {m : z_M} {g : z_g} {Q : q_V → q_S → Prop} {a1 a2 s0 : Int} (h :
    z_ok s0 ∧
    (¬ s0 = (0 : Int) →
      z_C 93 [.inr (.inr 0), .inl a2] (z_st m g) (fun v S => z_T 105 9 [.inr (.inr 0), .inl a1, .inl a2] (q_push v []) S Q)) ∧
    (s0 = (0 : Int) →
      Q (.inl (-1 : Int)) (z_st m g))) :
    z_T 105 3 [.inr (.inr 0), .inl a1, .inl a2] [.inl s0] (z_st m g) Q := y_wp_T (cd := q_c105) (cs := [3, 9, 15, 21]) (ng := []) (sy := []) rfl 300 3 _ _ _ _ h
theorem y_105_9 {m : z_M} {g : z_g} {Q : q_V → q_S → Prop} {a1 a2 s0 : Int} (h :
    z_ok s0 ∧
    (¬ s0 = (0 : Int) →
      z_C 49 [.inr (.inr 0), .inl a1] (z_st m g) (fun v S => z_T 105 15 [.inr (.inr 0), .inl a1, .inl a2] (q_push v []) S Q)) ∧
    (s0 = (0 : Int) →
      Q (.inl (-2 : Int)) (z_st m g))) :
    z_T 105 9 [.inr (.inr 0), .inl a1, .inl a2] [.inl s0] (z_st m g) Q := y_wp_T (cd := q_c105) (cs := [3, 9, 15, 21]) (ng := []) (sy := []) rfl 300 9 _ _ _ _ h
theorem y_105_15 {m : z_M} {g : z_g} {Q : q_V → q_S → Prop} {a1 a2 : Int} (h :
    z_C 106 [.inr (.inr 100), .inr (.inr 65), .inl a2] (z_st m g) (fun v S => z_T 105 21 [.inr (.inr 0), .inl a1, .inl a2] (q_push v []) S Q)) :
    z_T 105 15 [.inr (.inr 0), .inl a1, .inl a2] [] (z_st m g) Q := y_wp_T (cd := q_c105) (cs := [3, 9, 15, 21]) (ng := []) (sy := []) rfl 300 15 _ _ _ _ h
theorem y_105_21 {m : z_M} {g : z_g} {Q : q_V → q_S → Prop} {a1 a2 s0 : Int} (h :
    z_ok s0 ∧
    (s0 = (0 : Int) →
      Q (.inl (0 : Int)) (z_st m g)) ∧
    (¬ s0 = (0 : Int) →
      Q (.inl (1 : Int)) (z_st m g))) :
    z_T 105 21 [.inr (.inr 0), .inl a1, .inl a2] [.inl s0] (z_st m g) Q := y_wp_T (cd := q_c105) (cs := [3, 9, 15, 21]) (ng := []) (sy := []) rfl 300 21 _ _ _ _ h
theorem y_106P : q_P 106 = (q_c106, 6) := rfl
theorem y_106 {m : z_M} {g : z_g} {Q : q_V → q_S → Prop} {a2 : Int} (h :
    z_C 107 [.inr (.inr 100), .inr (.inr 65), .inl a2] (z_st m g) (fun v S => z_T 106 4 [.inr (.inr 100), .inr (.inr 65), .inl a2, q_dead, q_dead, q_dead] (q_push v []) S Q)) :
    z_C 106 [.inr (.inr 100), .inr (.inr 65), .inl a2] (z_st m g) Q := y_C_wp (cs := [4, 8, 15, 24, 36, 40, 52, 84]) (ng := []) (sy := []) (n := 300) y_106P h
theorem y_106_4 {m : z_M} {g : z_g} {Q : q_V → q_S → Prop} {a2 : Int} (h :
    z_C 10 [.inr (.inr 108), .inl (0 : Int)] (z_st m g) (fun v S => z_T 106 8 [.inr (.inr 100), .inr (.inr 65), .inl a2, q_dead, q_dead, q_dead] (q_push v []) S Q)) :
    z_T 106 4 [.inr (.inr 100), .inr (.inr 65), .inl a2, q_dead, q_dead, q_dead] [] (z_st m g) Q := y_wp_T (cd := q_c106) (cs := [4, 8, 15, 24, 36, 40, 52, 84]) (ng := []) (sy := []) rfl 300 4 _ _ _ _ h
theorem y_106_8 {m : z_M} {g : z_g} {Q : q_V → q_S → Prop} {a2 : Int} (h :
    z_T 106 15 [.inr (.inr 100), .inr (.inr 65), .inl a2, .inl (0 : Int), .inl ((m 100 4) - (1 : Int)), q_dead] [] (z_st m g) Q) :
    z_T 106 8 [.inr (.inr 100), .inr (.inr 65), .inl a2, q_dead, q_dead, q_dead] [] (z_st m g) Q := y_wp_T (cd := q_c106) (cs := [4, 8, 15, 24, 36, 40, 52, 84]) (ng := []) (sy := []) rfl 300 8 _ _ _ _ h
theorem y_106_15 {m : z_M} {g : z_g} {Q : q_V → q_S → Prop} {a2 a3 a4 : Int} {da5 : q_V} (h :
    z_ok a4 ∧
    (a4 < (0 : Int) →
      z_T 106 52 [.inr (.inr 100), .inr (.inr 65), .inl a2, .inl a3, .inl (0 : Int), da5] [] (z_st m g) Q) ∧
    ((0 : Int) ≤ a4 →
      z_C 88 [.inr (.inr 101), .inl a4, .inl a3, .inl (m 100 3)] (z_st m g) (fun v S => z_T 106 24 [.inr (.inr 100), .inr (.inr 65), .inl a2, .inl a3, .inl a4, da5] (q_push v []) S Q))) :
    z_T 106 15 [.inr (.inr 100), .inr (.inr 65), .inl a2, .inl a3, .inl a4, da5] [] (z_st m g) Q := y_wp_T (cd := q_c106) (cs := [4, 8, 15, 24, 36, 40, 52, 84]) (ng := []) (sy := []) rfl 300 15 _ _ _ _ h
theorem y_106_24 {m : z_M} {g : z_g} {Q : q_V → q_S → Prop} {a2 a3 a4 s0 : Int} {da5 : q_V} (h :
    z_ok s0 ∧
    (s0 < (0 : Int) →
      z_T 106 15 [.inr (.inr 100), .inr (.inr 65), .inl a2, .inl a3, .inl (a4 + (-1 : Int)), .inl s0] [] (z_st m g) Q) ∧
    ((0 : Int) ≤ s0 →
      z_C 89 [.inr (.inr 101), .inl s0, .inl a3, .inl ((m 100 4) + (1 : Int))] (z_st m g) (fun v S => z_T 106 36 [.inr (.inr 100), .inr (.inr 65), .inl a2, .inl a3, .inl a4, .inl s0] (q_push v []) S Q))) :
    z_T 106 24 [.inr (.inr 100), .inr (.inr 65), .inl a2, .inl a3, .inl a4, da5] [.inl s0] (z_st m g) Q := y_wp_T (cd := q_c106) (cs := [4, 8, 15, 24, 36, 40, 52, 84]) (ng := []) (sy := []) rfl 300 24 _ _ _ _ h
theorem y_106_36 {m : z_M} {g : z_g} {Q : q_V → q_S → Prop} {a2 a3 a4 a5 : Int} (h :
    z_C 108 [.inr (.inr 100), .inl a3, .inl a4] (z_st m g) (fun v S => z_T 106 40 [.inr (.inr 100), .inr (.inr 65), .inl a2, .inl a3, .inl a4, .inl a5] (q_push v []) S Q)) :
    z_T 106 36 [.inr (.inr 100), .inr (.inr 65), .inl a2, .inl a3, .inl a4, .inl a5] [] (z_st m g) Q := y_wp_T (cd := q_c106) (cs := [4, 8, 15, 24, 36, 40, 52, 84]) (ng := []) (sy := []) rfl 300 36 _ _ _ _ h
theorem y_106_40 {m : z_M} {g : z_g} {Q : q_V → q_S → Prop} {a2 a3 a4 a5 : Int} (h :
    z_in a4 6 ∧
    z_T 106 15 [.inr (.inr 100), .inr (.inr 65), .inl a2, .inl (a3 + (1 : Int)), .inl (a4 + (-1 : Int)), .inl a5] [] (z_st (q_upd m 108 ((a4).toNat) (a3 + (1 : Int))) g) Q) :
    z_T 106 40 [.inr (.inr 100), .inr (.inr 65), .inl a2, .inl a3, .inl a4, .inl a5] [] (z_st m g) Q := y_wp_T (cd := q_c106) (cs := [4, 8, 15, 24, 36, 40, 52, 84]) (ng := []) (sy := []) rfl 300 40 _ _ _ _ h
theorem y_106_52 {m : z_M} {g : z_g} {Q : q_V → q_S → Prop} {a2 a3 a4 : Int} {da5 : q_V} (h :
    z_ok2 a4 (m 100 4) ∧
    ((m 100 4) ≤ a4 →
      z_C 109 [.inr (.inr 100), .inl a3] (z_st m g) (fun v S => z_T 106 84 [.inr (.inr 100), .inr (.inr 65), .inl a2, .inl a3, .inl a4, da5] (q_push v []) S Q)) ∧
    (a4 < (m 100 4) →
      z_in a4 6 ∧
      z_ok (m 108 ((a4).toNat)) ∧
      (¬ (m 108 ((a4).toNat)) = (0 : Int) →
        z_in a4 6 ∧
        z_rw (q_rfz g.1 g.2.1) 101 ((m 108 ((a4).toNat)) - (1 : Int)) 6 ∧
        z_sp (q_sh0 ++ g.2.2.1) (102 + ((m 108 ((a4).toNat)) - (1 : Int)).toNat) 0 5 ∧ z_in (m 100 4) 5 ∧
        z_in a4 6 ∧
        z_T 106 52 [.inr (.inr 100), .inr (.inr 65), .inl a2, .inl a3, .inl (a4 + (1 : Int)), da5] [] (z_st (q_upd m 108 ((a4).toNat) (m (102 + ((m 108 ((a4).toNat)) - (1 : Int)).toNat) ((m 100 4).toNat))) g) Q) ∧
      ((m 108 ((a4).toNat)) = (0 : Int) →
        z_in a4 6 ∧
        z_T 106 52 [.inr (.inr 100), .inr (.inr 65), .inl a2, .inl a3, .inl (a4 + (1 : Int)), da5] [] (z_st (q_upd m 108 ((a4).toNat) (0 : Int)) g) Q))) :
    z_T 106 52 [.inr (.inr 100), .inr (.inr 65), .inl a2, .inl a3, .inl a4, da5] [] (z_st m g) Q := y_wp_T (cd := q_c106) (cs := [4, 8, 15, 24, 36, 40, 52, 84]) (ng := []) (sy := [(77, 5)]) rfl 300 52 _ _ _ _ h
theorem y_106_84 {m : z_M} {g : z_g} {Q : q_V → q_S → Prop} {a2 a3 a4 s0 : Int} {da5 : q_V} (h :
    (s0 = 0 ∨ s0 = 1) ∧ Q (.inl s0) (z_st m g)) :
    z_T 106 84 [.inr (.inr 100), .inr (.inr 65), .inl a2, .inl a3, .inl a4, da5] [.inl s0] (z_st m g) Q := y_wp_T (cd := q_c106) (cs := [4, 8, 15, 24, 36, 40, 52, 84]) (ng := [84]) (sy := []) rfl 300 84 _ _ _ _ h
theorem y_107P : q_P 107 = (q_c107, 6) := rfl
theorem y_107 {m : z_M} {g : z_g} {Q : q_V → q_S → Prop} {a2 : Int} (h :
    z_C 34 [.inr (.inr 66)] (z_st (q_upd m 100 3 (m 66 1)) g) (fun v S => z_T 107 10 [.inr (.inr 100), .inr (.inr 65), .inl a2, .inr (.inr 66), q_dead, q_dead] (q_push v [.inr (.inr 100)]) S Q)) :
    z_C 107 [.inr (.inr 100), .inr (.inr 65), .inl a2] (z_st m g) Q := y_C_wp (cs := [10, 13, 19, 34, 35, 49, 55, 56, 57]) (ng := []) (sy := []) (n := 300) y_107P h
theorem y_107_10 {m : z_M} {g : z_g} {Q : q_V → q_S → Prop} {a2 s0 : Int} (h :
    z_T 107 13 [.inr (.inr 100), .inr (.inr 65), .inl a2, .inr (.inr 66), .inl (0 : Int), q_dead] [] (z_st (q_upd m 100 4 s0) g) Q) :
    z_T 107 10 [.inr (.inr 100), .inr (.inr 65), .inl a2, .inr (.inr 66), q_dead, q_dead] [.inl s0, .inr (.inr 100)] (z_st m g) Q := y_wp_T (cd := q_c107) (cs := [10, 13, 19, 34, 35, 49, 55, 56, 57]) (ng := []) (sy := []) rfl 300 10 _ _ _ _ h
theorem y_107_13 {m : z_M} {g : z_g} {Q : q_V → q_S → Prop} {a2 a4 : Int} {da5 : q_V} (h :
    z_ok2 a4 (m 100 3) ∧
    ((m 100 3) ≤ a4 →
      Q q_dead (z_st m g)) ∧
    (a4 < (m 100 3) →
      z_T 107 19 [.inr (.inr 100), .inr (.inr 65), .inl a2, .inr (.inr 66), .inl a4, .inl (0 : Int)] [] (z_st m g) Q)) :
    z_T 107 13 [.inr (.inr 100), .inr (.inr 65), .inl a2, .inr (.inr 66), .inl a4, da5] [] (z_st m g) Q := y_wp_T (cd := q_c107) (cs := [10, 13, 19, 34, 35, 49, 55, 56, 57]) (ng := []) (sy := []) rfl 300 13 _ _ _ _ h
theorem y_107_19 {m : z_M} {g : z_g} {Q : q_V → q_S → Prop} {a2 a4 a5 : Int} (h :
    z_ok2 a5 (m 100 4) ∧
    ((m 100 4) ≤ a5 →
      z_rw (q_rfz g.1 g.2.1) 101 a4 6 ∧
      z_C 67 [.inr (.inr 65), .inl a4] (z_st m g) (fun v S => z_T 107 49 [.inr (.inr 100), .inr (.inr 65), .inl a2, .inr (.inr 66), .inl a4, .inl a5] (q_push v [.inr (.inr 29), .inl (m 100 4), .inr (.inr (102 + (a4).toNat))]) S Q)) ∧
    (a5 < (m 100 4) →
      z_rw (q_rfz g.1 g.2.1) 101 a4 6 ∧
      z_C 38 [.inr (.inr 66), .inl a5, .inl a4] (z_st m g) (fun v S => z_T 107 34 [.inr (.inr 100), .inr (.inr 65), .inl a2, .inr (.inr 66), .inl a4, .inl a5] (q_push v [.inr (.inr 29), .inl a5, .inr (.inr (102 + (a4).toNat))]) S Q))) :
    z_T 107 19 [.inr (.inr 100), .inr (.inr 65), .inl a2, .inr (.inr 66), .inl a4, .inl a5] [] (z_st m g) Q := y_wp_T (cd := q_c107) (cs := [10, 13, 19, 34, 35, 49, 55, 56, 57]) (ng := []) (sy := []) rfl 300 19 _ _ _ _ h
theorem y_107_34 {m : z_M} {g : z_g} {Q : q_V → q_S → Prop} {a2 a4 a5 s0 s2 : Int} {os3 : Nat} (h :
    z_C 52 [.inr (.inr 29), .inl s0] (z_st m g) (fun v S => z_T 107 35 [.inr (.inr 100), .inr (.inr 65), .inl a2, .inr (.inr 66), .inl a4, .inl a5] (q_push v [.inl s2, .inr (.inr os3)]) S Q)) :
    z_T 107 34 [.inr (.inr 100), .inr (.inr 65), .inl a2, .inr (.inr 66), .inl a4, .inl a5] [.inl s0, .inr (.inr 29), .inl s2, .inr (.inr os3)] (z_st m g) Q := y_wp_T (cd := q_c107) (cs := [10, 13, 19, 34, 35, 49, 55, 56, 57]) (ng := []) (sy := []) rfl 300 34 _ _ _ _ h
theorem y_107_35 {m : z_M} {g : z_g} {Q : q_V → q_S → Prop} {a2 a4 a5 s0 s1 : Int} {os2 : Nat} (h :
    z_sp (q_sh0 ++ g.2.2.1) os2 0 5 ∧ z_in s1 5 ∧
    z_T 107 19 [.inr (.inr 100), .inr (.inr 65), .inl a2, .inr (.inr 66), .inl a4, .inl (a5 + (1 : Int))] [] (z_st (q_upd m os2 ((s1).toNat) s0) g) Q) :
    z_T 107 35 [.inr (.inr 100), .inr (.inr 65), .inl a2, .inr (.inr 66), .inl a4, .inl a5] [.inl s0, .inl s1, .inr (.inr os2)] (z_st m g) Q := y_wp_T (cd := q_c107) (cs := [10, 13, 19, 34, 35, 49, 55, 56, 57]) (ng := []) (sy := [(35, 5)]) rfl 300 35 _ _ _ _ h
theorem y_107_49 {m : z_M} {g : z_g} {Q : q_V → q_S → Prop} {a2 a4 a5 s0 s2 : Int} {os3 : Nat} (h :
    z_C 28 [.inr (.inr 66), .inl a4] (z_st m g) (fun v S => z_T 107 55 [.inr (.inr 100), .inr (.inr 65), .inl a2, .inr (.inr 66), .inl a4, .inl a5] (q_push v [.inl a2, .inr (.inr 29), .inl s0, .inr (.inr 29), .inl s2, .inr (.inr os3)]) S Q)) :
    z_T 107 49 [.inr (.inr 100), .inr (.inr 65), .inl a2, .inr (.inr 66), .inl a4, .inl a5] [.inl s0, .inr (.inr 29), .inl s2, .inr (.inr os3)] (z_st m g) Q := y_wp_T (cd := q_c107) (cs := [10, 13, 19, 34, 35, 49, 55, 56, 57]) (ng := []) (sy := []) rfl 300 49 _ _ _ _ h
theorem y_107_55 {m : z_M} {g : z_g} {Q : q_V → q_S → Prop} {a2 a4 a5 s0 s1 s3 s5 : Int} {os6 : Nat} (h :
    z_C 101 [.inr (.inr 29), .inl s1, .inl s0] (z_st m g) (fun v S => z_T 107 56 [.inr (.inr 100), .inr (.inr 65), .inl a2, .inr (.inr 66), .inl a4, .inl a5] (q_push v [.inl s3, .inr (.inr 29), .inl s5, .inr (.inr os6)]) S Q)) :
    z_T 107 55 [.inr (.inr 100), .inr (.inr 65), .inl a2, .inr (.inr 66), .inl a4, .inl a5] [.inl s0, .inl s1, .inr (.inr 29), .inl s3, .inr (.inr 29), .inl s5, .inr (.inr os6)] (z_st m g) Q := y_wp_T (cd := q_c107) (cs := [10, 13, 19, 34, 35, 49, 55, 56, 57]) (ng := []) (sy := []) rfl 300 55 _ _ _ _ h
theorem y_107_56 {m : z_M} {g : z_g} {Q : q_V → q_S → Prop} {a2 a4 a5 s0 s1 s3 : Int} {os4 : Nat} (h :
    z_C 68 [.inr (.inr 29), .inl s1, .inl s0] (z_st m g) (fun v S => z_T 107 57 [.inr (.inr 100), .inr (.inr 65), .inl a2, .inr (.inr 66), .inl a4, .inl a5] (q_push v [.inl s3, .inr (.inr os4)]) S Q)) :
    z_T 107 56 [.inr (.inr 100), .inr (.inr 65), .inl a2, .inr (.inr 66), .inl a4, .inl a5] [.inl s0, .inl s1, .inr (.inr 29), .inl s3, .inr (.inr os4)] (z_st m g) Q := y_wp_T (cd := q_c107) (cs := [10, 13, 19, 34, 35, 49, 55, 56, 57]) (ng := []) (sy := []) rfl 300 56 _ _ _ _ h
theorem y_107_57 {m : z_M} {g : z_g} {Q : q_V → q_S → Prop} {a2 a4 a5 s0 s1 : Int} {os2 : Nat} (h :
    z_sp (q_sh0 ++ g.2.2.1) os2 0 5 ∧ z_in s1 5 ∧
    z_T 107 13 [.inr (.inr 100), .inr (.inr 65), .inl a2, .inr (.inr 66), .inl (a4 + (1 : Int)), .inl a5] [] (z_st (q_upd m os2 ((s1).toNat) s0) g) Q) :
    z_T 107 57 [.inr (.inr 100), .inr (.inr 65), .inl a2, .inr (.inr 66), .inl a4, .inl a5] [.inl s0, .inl s1, .inr (.inr os2)] (z_st m g) Q := y_wp_T (cd := q_c107) (cs := [10, 13, 19, 34, 35, 49, 55, 56, 57]) (ng := []) (sy := [(57, 5)]) rfl 300 57 _ _ _ _ h
