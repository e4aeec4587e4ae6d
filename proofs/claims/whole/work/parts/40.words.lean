/-! THE TABLES' WORDS that the abstract machine needs, decided by program (lists written by wip/whole/words.py, in the order of the tables) -/
def q_jl : List Nat := [0, 1, 2, 3, 4, 5, 6, 7, 8, 9, 11, 12, 13, 14, 15, 16, 17, 18, 21, 22, 23, 24, 25, 26, 27, 28, 29, 30, 32, 33, 34, 36, 37, 38, 39, 42, 43, 44, 45, 46, 47, 48, 49, 50, 51, 52, 54, 55, 56, 57, 58, 59, 60, 61, 62, 63, 64, 65, 66, 67, 68, 69, 71, 72, 73, 74, 75, 76, 77, 78, 79, 80, 81, 82, 83, 84, 85, 87, 90, 91, 92, 93, 94, 95, 96, 97, 98, 99, 101, 102, 103, 104, 105, 106, 107, 108, 109, 110, 111, 112, 113, 114, 115, 116, 117, 118, 119, 120, 121, 122, 123, 124, 125, 126, 127, 129, 130, 131, 132, 133, 135, 136, 137, 138, 139, 140, 141, 142, 143, 144, 146, 147, 148, 149, 150, 151, 152, 153, 154, 155, 156, 157, 158, 161, 162, 163, 164, 165, 169, 170, 173, 174, 175, 176, 177, 178, 180, 181, 182, 183, 184, 185, 186, 187, 189, 190, 193, 194, 195, 203, 206, 207, 208, 209, 210, 211, 212, 213, 214, 215, 216, 217, 218, 219, 220, 221, 222, 223, 225, 226, 227, 228, 229, 230, 231, 232, 233, 234, 235, 236, 237, 238, 239, 240, 242, 243, 244, 245, 246, 247, 248, 249, 250, 251, 252, 253, 255, 256, 257, 258, 259, 260, 261, 262, 264, 265, 266, 267, 268, 269, 270, 271, 272, 273, 274, 275, 276, 277, 278, 279, 280, 281, 282, 283, 284, 285, 286, 287, 288, 289, 290, 291, 292, 293, 294, 295]
def q_jt : List Nat := [10, 19, 20, 31, 35, 40, 41, 53, 70, 86, 88, 89, 100, 128, 134, 145, 159, 160, 166, 167, 168, 171, 172, 179, 188, 191, 192, 196, 197, 198, 199, 200, 201, 202, 204, 205, 224, 241, 254, 263]
def q_js : List Nat := [15, 16, 18, 21, 22, 23, 25, 26, 27, 28, 29, 30, 32, 33, 34, 36, 37, 38, 39, 42, 43, 46, 47, 48, 50, 51, 52, 55, 56, 57, 59, 60, 61, 62, 64, 65, 66, 67, 68, 69, 72, 73, 74, 75, 77, 78, 79, 80, 81, 82, 83, 85, 87, 91, 92, 94, 95, 97, 98, 99, 101, 104, 105, 106, 110, 111, 112, 113, 116, 117, 118, 120, 121, 124, 126, 129, 130, 131, 132, 133, 135, 136, 137, 139, 140, 141, 142, 143, 144, 147, 150, 151, 153, 154, 155, 162, 164, 169, 173, 174, 176, 177, 178, 180, 181, 182, 183, 184, 185, 186, 187, 190, 194, 203, 206, 208, 211, 212, 228, 229, 232, 233, 235, 240, 243, 249, 251, 255, 256, 258, 259, 261, 262, 264, 265, 267, 268, 269, 280, 283, 284, 286, 287, 288, 289, 290, 294, 295]
def q_jp : List Nat := [17, 24, 44, 45, 49, 54, 58, 63, 71, 76, 84, 90, 93, 96, 102, 103, 107, 108, 109, 114, 115, 119, 122, 123, 125, 127, 138, 146, 148, 149, 152, 189, 193, 195, 207, 209, 210, 213, 214, 215, 216, 217, 218, 219, 220, 221, 222, 223, 225, 226, 227, 230, 231, 234, 236, 237, 238, 239, 242, 244, 245, 246, 247, 248, 250, 252, 253, 257, 260, 266, 270, 271, 272, 273, 274, 275, 276, 277, 278, 279, 281, 282, 291, 292, 293]
def q_ol : List Nat := [22, 0, 1, 2, 3, 4, 5, 6, 7, 8, 9, 10, 11, 13, 12, 19, 14, 21, 15, 16, 17, 18, 20]
def q_kq4 : List Nat := [161]
def q_k4p : List Nat := [157, 158]
def q_k45 : List Nat := [161, 156, 157, 158, 163, 165, 170, 175]
def q_bl : List Nat := [12, 10, 3, 1, 11, 6, 7, 4, 9, 5, 8, 0, 2, 13]
def q_lf : List (Nat × Nat) := [(10, 2), (10, 4), (10, 5), (10, 6), (10, 7), (10, 9), (10, 10), (3, 1), (3, 2), (1, 0), (11, 0), (11, 1), (11, 2), (11, 3), (6, 0), (6, 2), (6, 3), (6, 4), (6, 5), (7, 0), (7, 1), (4, 0), (4, 1), (4, 2), (9, 1), (9, 2), (9, 3), (9, 4), (5, 0), (5, 1), (8, 0), (8, 3), (8, 4), (2, 1), (2, 2), (12, 0), (12, 1), (12, 3), (12, 4), (12, 5), (12, 6), (12, 7), (12, 8), (12, 9), (12, 10), (12, 11), (12, 12), (12, 13), (12, 14), (13, 0), (13, 2), (13, 4), (13, 5), (13, 6), (13, 7), (13, 9), (13, 10), (13, 11), (13, 12), (13, 13), (13, 14), (13, 17), (13, 19), (13, 20), (13, 21), (13, 22), (13, 23), (13, 24), (13, 26), (13, 27), (13, 29), (13, 30), (13, 31), (13, 32), (13, 36), (13, 38), (13, 39), (13, 40), (13, 42), (13, 43), (13, 44), (13, 45)]
def q_ln : List (Nat × Nat) := [(10, 0), (10, 1), (10, 3), (10, 8), (3, 0), (1, 1), (11, 4), (11, 5), (6, 1), (6, 6), (7, 2), (4, 3), (4, 4), (9, 0), (8, 1), (8, 2), (0, 0), (0, 1), (0, 2), (0, 3), (2, 0), (12, 2), (13, 1), (13, 3), (13, 8), (13, 15), (13, 16), (13, 18), (13, 25), (13, 28), (13, 33), (13, 34), (13, 35), (13, 37), (13, 41), (13, 46), (13, 47), (13, 48)]
def q_xw : List Jvm.Cond := q_k4p.map (fun j => Jvm.Cond.selects (q_clq 0).1 (q_mn j) (q_mn j))
def q_Ts : List Jvm.Cond := q_xw ++ lw_tbl.filter goodWord
theorem q_subm {a b : List Jvm.Cond} (h : a.isSublist b = true) {w : Jvm.Cond} (hw : w ∈ a) : w ∈ b := (List.isSublist_iff_sublist.mp h).subset hw
theorem q_inTs {w : Jvm.Cond} (h : w ∈ tables_1) (hg : goodWord w = true) : w ∈ q_Ts := List.mem_append_right _ (List.mem_filter.mpr ⟨List.mem_append_right _ h, hg⟩)
theorem q_w_ft : (q_ft.map q_fw).isSublist tables_1 = true := by decide +kernel
theorem q_w_ml : ((q_ct.filter (fun e => !(e.2.2.1 == 3))).map (fun e => Jvm.Cond.methodLink (q_ow e.1) e.2.1 (q_mn e.2.2.2))).isSublist tables_1 = true := by decide +kernel
theorem q_w_jl : (q_jl.map (fun j => Jvm.Cond.instanceMethod (q_mn j))).isSublist tables_1 = true := by decide +kernel
theorem q_w_jt : (q_jt.map (fun j => Jvm.Cond.static (q_mn j))).isSublist tables_1 = true := by decide +kernel
theorem q_w_js : (q_js.map (fun j => Jvm.Cond.selects (q_mn j).cls (q_mn j) (q_mn j))).isSublist tables_1 = true := by decide +kernel
theorem q_w_jp : (q_jp.map (fun j => Jvm.Cond.selects (q_mn j).cls (q_mn j) (q_mn j))).isSublist (k2_sels lw_privs) = true := by decide +kernel
theorem q_w_ol : ((q_ol.filter (fun o => decide (o < 22))).map (fun o => Jvm.Cond.initialized (q_ow o))).isSublist tables_1 = true := by decide +kernel
theorem q_w_k4 : (q_kq4.map (fun j => Jvm.Cond.selects (q_clq 0).1 (q_mn j) (q_mn j))).isSublist tables_1 = true := by decide +kernel
theorem q_w_k45 : (q_k45.map (fun j => Jvm.Cond.sameMethod (q_mn j).cls (q_mn j).cls (q_mn j).name (q_mn j).desc)).isSublist tables_1 = true := by decide +kernel
theorem q_w_k4p : (q_k4p.map (fun j => Jvm.Cond.privateMethod (q_mn j))).isSublist tables_1 = true := by decide +kernel
theorem q_w_bl : (q_bl.map (fun b => Jvm.Cond.instantiable (q_clq b).1 (q_nf b))).isSublist tables_1 = true := by decide +kernel
theorem q_w_lf : (q_lf.map (fun k => u_lay (q_clq k.1).1 (q_clq k.1).2.1 k.2)).isSublist tables_1 = true := by decide +kernel
theorem q_w_ln : (q_ln.map (fun k => u_lay (q_clq k.1).1 (q_clq k.1).2.1 k.2)).isSublist tables_1 = true := by decide +kernel
theorem q_w_kt : (q_kt.map q_kw).isSublist tables_1 = true := by decide +kernel
theorem q_w_ku : (q_ku.map q_kwl).isSublist tables_1 = true := by decide +kernel
theorem q_w_nt : (q_nt.map q_nw).isSublist tables_1 = true := by decide +kernel
theorem q_w_at : (q_at.map q_aw).isSublist tables_1 = true := by decide +kernel
theorem q_w_ot : (q_ot.map q_otw).isSublist tables_1 = true := by decide +kernel
theorem q_w_st : ((q_st.filter (fun q => q.2.2.2.2.2 == 0)).map q_stw).isSublist tables_1 = true := by decide +kernel
theorem q_w_mok1 : (List.range 296).all (fun j => decide ((q_mn j).cls ≠ "java/lang/invoke/MethodHandle")) = true := by decide +kernel
theorem q_w_mok2 : (List.range 296).all (fun j => decide ((q_mn j).cls ≠ "java/lang/invoke/VarHandle")) = true := by decide +kernel
theorem q_w_mok3 : (List.range 296).all (fun j => plainName (q_mn j).cls || ((q_mn j).cls == "java/lang/Math" && q_mathd.contains (q_mn j).desc)) = true := by decide +kernel
theorem q_w_mok4 : (List.range 296).all (fun j => decide ((q_P j).2 = q_ml j)) = true := by decide +kernel
theorem q_w_mok5 : (List.range 296).all (fun j => decide (q_ow (q_oi j) = (q_mn j).cls)) = true := by decide +kernel
