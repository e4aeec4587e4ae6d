/-! SOUNDNESS, EIGHT: calls and returns. -/
/-- how many methods can be called: all but the law -/
def q_nm : Nat := 296
def q_rf (j : Nat) : Nat := (q_rooms.getD j (0, 0)).1
def q_rl (j : Nat) : Nat := (q_rooms.getD j (0, 0)).2
def q_ov (G : q_G) (r : q_V) : Option Value := if r = q_dead then none else some (q_cv G r)
def q_Qc (G : q_G) (r : q_V) (S' : q_S) : Array Value → State → Outcome → State → Prop := fun _ st oc t => oc = .returned (q_ov G r) ∧ q_Rp G S' t.heap ∧ va_F (q_A G) st t ∧ t.heap.size = q_base G + S'.2.2.1.length
def q_Pc (G : q_G) (as : List q_V) (S : q_S) : Array Value → State → Prop := fun v U => v = (as.map (q_cv G)).toArray ∧ q_Rp G S U.heap ∧ q_Kn G U ∧ U.heap.size = q_base G + S.2.2.1.length
theorem q_Pc_blind {G : q_G} {as : List q_V} {S : q_S} : FrameBlind (q_Pc G as S) := by
  intro a U g mk h
  obtain ⟨h1, h2, h3, h4⟩ := h
  exact ⟨h1, h2, q_Kn.go (s := U) (U := U.calling g mk a) h3 (State.WarmedH.refl U) (Nat.le_refl _) (fun _ _ _ => rfl), h4⟩
/-- the words of a method's contract -/
def q_wm (Ts : List Jvm.Cond) (j : Nat) : List Jvm.Cond := Jvm.Cond.code (q_mn j) (q_mb j) (q_ml j) (q_mr j) :: Ts
/-- what the tables of calls say, by the kind -/
def q_cw (e : Nat × Nat × Nat × Nat) : List Jvm.Cond := match e.2.2.1 with
  | 0 => [.methodLink (q_ow e.1) e.2.1 (q_mn e.2.2.2), .static (q_mn e.2.2.2), .initialized (q_mn e.2.2.2).cls]
  | 1 => [.methodLink (q_ow e.1) e.2.1 (q_mn e.2.2.2), .instanceMethod (q_mn e.2.2.2), .selects (q_mn e.2.2.2).cls (q_mn e.2.2.2) (q_mn e.2.2.2), .initialized (q_mn e.2.2.2).cls]
  | 2 => [.methodLink (q_ow e.1) e.2.1 (q_mn e.2.2.2), .instanceMethod (q_mn e.2.2.2), .initialized (q_mn e.2.2.2).cls]
  | 3 => [.static (q_mn e.2.2.2), .initialized (q_mn e.2.2.2).cls]
  | 4 => [.methodLink (q_ow e.1) e.2.1 (q_mn e.2.2.2), .sameMethod (q_mn e.2.2.2).cls (q_mn e.2.2.2).cls (q_mn e.2.2.2).name (q_mn e.2.2.2).desc, .selects (q_clq 0).1 (q_mn e.2.2.2) (q_mn e.2.2.2), .instanceMethod (q_mn e.2.2.2), .initialized (q_mn e.2.2.2).cls]
  | _ => [.methodLink (q_ow e.1) e.2.1 (q_mn e.2.2.2), .sameMethod (q_mn e.2.2.2).cls (q_mn e.2.2.2).cls (q_mn e.2.2.2).name (q_mn e.2.2.2).desc, .superclass (q_ow e.1) (q_mn e.2.2.2).cls, .instanceMethod (q_mn e.2.2.2), .initialized (q_mn e.2.2.2).cls]
def q_mathd : List String := ["(II)I", "(JJ)J"]
/-- the plain facts of a callee, decided once a method -/
def q_mok (j : Nat) : Bool := decide ((q_mn j).cls ≠ "java/lang/invoke/MethodHandle") && decide ((q_mn j).cls ≠ "java/lang/invoke/VarHandle") && (plainName (q_mn j).cls || ((q_mn j).cls == "java/lang/Math" && q_mathd.contains (q_mn j).desc)) && decide ((q_P j).2 = q_ml j) && decide (q_ow (q_oi j) = (q_mn j).cls)
def q_np (j : Nat) : Option Nat := (parseMethodDescriptor (q_mn j).desc).map (fun d => d.parameters.length)
/-- what is checked of a call: how many arguments, the entry of the calls' table, the room -/
def q_kX (j o a b : Nat) (z : Int) (t : List Nat) (ins : Instr) (len : Nat) : Bool :=
  len == 3 && decide (q_rf b + 1 ≤ q_rf j) && decide (8 + (q_ml b + 11) + q_rl b ≤ q_rl j) && decide (b < q_nm) &&
  (match q_ct[z.toNat]? with
  | some (o', idx, k, b') => o' == o && b' == b && (match ins with
    | .invokestatic i => i == idx && t == [] && decide (q_np b = some a) && (k == 0 || (k == 3 && q_nest.contains (.methodLinkNest (q_ow o) idx (q_mn b) "DoubleRootSums")))
    | .invokevirtual i => i == idx && decide (q_np b = some (a - 1)) && decide (1 ≤ a) && ((k == 1 && (match t with | [ci] => decide (ci < 14) && (q_clq ci).1 == (q_mn b).cls | _ => false)) || (k == 4 && t == [0]))
    | .invokespecial i => i == idx && decide (q_np b = some (a - 1)) && decide (1 ≤ a) && ((k == 2 && (match t with | [ci] => decide (ci < 14) | _ => false) && (q_mn b).name == "<init>" && decide (q_mr b = none)) || (k == 5 && t == [0] && decide ((q_mn b).name ≠ "<init>")))
    | _ => false)
  | none => false)
def q_Tc (Ts : List Jvm.Cond) : Prop := (∀ w ∈ Ts, (w.onTables && w.keeps) = true ∨ ∃ ty, w = .arrayClass ty) ∧ (∀ j, j < q_nm → Jvm.Cond.code (q_mn j) (q_mb j) (q_ml j) (q_mr j) ∈ Ts) ∧ (∀ q ∈ q_ct, ∀ w ∈ q_cw q, w ∈ Ts) ∧ (∀ j, j < q_nm → q_mok j = true)
theorem q_wm_good {Ts : List Jvm.Cond} (hT : q_Tc Ts) {j : Nat} (hj : j < q_nm) : GoodIn Ts (q_wm Ts j) := by
  intro w hw
  rcases List.mem_cons.mp hw with rfl | hw
  · have := hT.2.1 j hj
    exact ⟨this, hT.1 _ this⟩
  · exact ⟨hw, hT.1 w hw⟩
theorem q_good_app {Ts ws : List Jvm.Cond} (hT : q_Tc Ts) {j : Nat} (hj : j < q_nm) (h : ∀ w ∈ ws, w ∈ Ts) : GoodIn Ts (ws ++ q_wm Ts j) := by
  intro w hw
  rcases List.mem_append.mp hw with hw | hw
  · exact ⟨h w hw, hT.1 w (h w hw)⟩
  · exact q_wm_good hT hj w hw
section QX
variable {p : Program} {l : Launch} {e : Env} {R : Room} {s : State} {m : MethodId} {args : Array Value} {below : List Frame} {meth : Method} {c : Code} {H : Heap} {locs : List Loc} {cells slots : Nat} {Q : State → Prop}
variable {cc : ByteArray} {bp bq : Nat} {ll : Array Slot} {G : q_G} {S : q_S} {ins : Instr} {len : Nat} {Ts : List Jvm.Cond} {n0 s0 : Nat} {t : List Nat}
theorem q_callR {mc ms pc : Nat} {st0 rest : List Value} {r : q_V} {S' : q_S} {av : Array Value} (hr : va_Run p l e R s m args below meth c H locs cells slots mc ms (F0 m pc ll st0) rest (q_Qc G r S' av) (q_A G)) (hS : va_S (q_A G) s.heap H locs)
    (kk : ∀ (H1 : Heap) (locs1 : List Loc), q_Rp G S' H1 → va_S (q_A G) s.heap H1 locs1 → W p l e R s m args below meth c H1 locs1 (cells + mc) (slots + ms) Q (F0 m (pc + 3) ll ((q_ov G r).toList ++ rest))) : W p l e R s m args below meth c H locs cells slots Q (F0 m pc ll st0) := by
  intro T hT X
  obtain ⟨v, st₀, t, T', L, h0, X', hL, e1, e2, ⟨hv, hrp, ⟨hz, hk⟩, hsz⟩, st⟩ := hr T hT X
  cases hv
  rw [h0] at hz hk
  obtain ⟨t2, a1, b1⟩ := kk T'.heap (locs ++ L) (by rw [e1]; exact hrp) ⟨Nat.le_trans hS.1 (by rw [e1]; exact hz), fun q h1 h2 => by rw [e1, hk q (Nat.lt_of_lt_of_le h1 hS.1) h2]; exact hS.2.1 q h1 h2, fun q hq => by
      rcases List.mem_append.mp hq with h | h
      · exact hS.2.2 q h
      · exact hL q h⟩ T' rfl X'
  exact ⟨t2, st t2 a1, b1⟩
theorem q_recv (hK : q_Kn G s) (hR : q_Rp G S H) {o ci : Nat} (h14 : ci < 14) (ho : (S.2.2.1[o]?).map Prod.fst = some (ci + 5)) : ∃ cellB : Cell, H[q_base G + o]? = some cellB ∧ cellB.vm.isStatics = false ∧ s.vm.findClass (q_clq ci).1 = some cellB.cls := by
  obtain ⟨n, hn⟩ := q_shpo ho
  exact va_recv (D := G.1) hK.1 hR.1 (q_clq_at h14) (q_ws_at hn)
theorem q_push_cv (hG : q_gok G) {r : q_V} {rest : List q_V} : (q_push r rest).map (q_cv G) = (q_ov G r).toList ++ rest.map (q_cv G) := by
  unfold q_push q_ov
  by_cases h : r = q_dead
  · rw [if_pos h, if_pos h]; rfl
  · rw [if_neg h, if_neg h]; rfl
theorem q_rcv_of {ci : Nat} {t2 : List Nat} {as : List q_V} (h : q_rcv (ci :: t2) as S = true) : ∃ o as', as = .inr (.inr o) :: as' ∧ o < 1000 ∧ (S.2.2.1[o]?).map Prod.fst = some (ci + 5) := by
  unfold q_rcv at h
  simp only at h
  split at h
  · rename_i o as'
    simp only [Bool.and_eq_true, decide_eq_true_eq] at h
    exact ⟨o, as', rfl, h.1, h.2⟩
  · cases h
/-- a call: the callee's contract stands, then on behind it -/
theorem q_oX (hT : q_Tc Ts) (hx : p.tables.exec = Jvm.exec) (hb : c.code = cc) (hml : c.maxLocals = ll.size) (hts : ∀ w ∈ Ts, w.before args s = true) {j o : Nat} (hown : s.vm.findClass (q_ow o) = some m.cls) (hK : q_Kn G s) (hR : q_Rp G S H) (hS : va_S (q_A G) s.heap H locs) (hn : s.heap.size = q_base G + n0) (hc0 : cells = S.2.2.1.length - n0) (hn0 : n0 ≤ S.2.2.1.length)
    (hRf : q_rf j ≤ R.frames) (hRl : q_rl j ≤ R.locals) {a b : Nat} {z : Int} {st as rs : List q_V} {r : q_V} {S' : q_S} (hcall : q_call (50, a, b, z, t) [] st S = some (b, as, rs)) (hlenS : S.2.2.1.length ≤ S'.2.2.1.length ∧ S.2.2.2 ≤ S'.2.2.2) (hf : cells + (S'.2.2.1.length - S.2.2.1.length) ≤ R.cells ∧ slots + (S'.2.2.2 - S.2.2.2) ≤ R.slots)
    (hM : Met l (q_mn b) (q_wm Ts b) ({ frames := q_rf b, cells := S'.2.2.1.length - S.2.2.1.length, slots := S'.2.2.2 - S.2.2.2, locals := q_rl b }) (q_Pc G as S) (q_Qc G r S') (S'.2.2.1.length - S.2.2.1.length) (S'.2.2.2 - S.2.2.2) (q_A G))
    (hd : decode cc bp = .ok (ins, len)) (hk : q_kX j o a b z t ins len = true) (hq : bq = bp + len)
    (kk : ∀ (H1 : Heap) (locs1 : List Loc), q_Rp G S' H1 → va_S (q_A G) s.heap H1 locs1 → W p l e R s m args below meth c H1 locs1 (cells + (S'.2.2.1.length - S.2.2.1.length)) (slots + (S'.2.2.2 - S.2.2.2)) Q (F0 m bq ll ((q_push r rs).map (q_cv G)))) : W p l e R s m args below meth c H locs cells slots Q (F0 m bp ll (st.map (q_cv G))) := by
  subst hq
  have hG := hK.2.2.2.2.2.2.2.2.2.2.2.2
  refine q_size fun hsz => ?_
  have hlo := q_low hR.1 hS hn
  have hH : H.size = q_base G + S.2.2.1.length := by omega
  unfold q_call at hcall
  simp only at hcall
  split at hcall
  · rename_i hcond
    obtain ⟨ha, hcat, hrcv, hdead⟩ := hcond
    simp only [Option.some.injEq, Prod.mk.injEq, true_and] at hcall
    obtain ⟨rfl, rfl⟩ := hcall
    have hst : st.map (q_cv G) = (((st.take a).reverse).map (q_cv G)).reverse ++ (st.drop a).map (q_cv G) := by
      rw [← List.map_reverse, List.reverse_reverse, ← List.map_append, List.take_append_drop]
    have hW : 2 * (F0 m bp ll (st.map (q_cv G))).monitorRoom + (((st.drop a).map (q_cv G)).map fun v => v.category).sum ≤ 8 := by
      rw [q_cats hG]
      show 2 * 0 + _ ≤ 8
      omega
    have hlen : ((st.take a).reverse).length = a := by rw [List.length_reverse, List.length_take]; omega
    have hPc : ∀ U : State, U.heap = H → s.WarmedH U.vm → q_Pc G (st.take a).reverse S (((st.take a).reverse).map (q_cv G)).toArray U := fun U hU hW => by
      have hs1 := hS.1
      have hs2 := hS.2.1
      rw [← hU] at hs1 hs2
      exact ⟨rfl, by rw [hU]; exact hR, hK.go hW hs1 hs2, by rw [hU]; exact hH⟩
    unfold q_kX at hk
    simp only [Bool.and_eq_true, beq_iff_eq, decide_eq_true_eq] at hk
    obtain ⟨⟨⟨⟨rfl, hf1⟩, hl1⟩, hb1⟩, hk⟩ := hk
    have hRoom : q_rf b + 1 ≤ R.frames ∧ 8 + (q_ml b + 11) + q_rl b ≤ R.locals := ⟨by omega, by omega⟩
    have hmok := hT.2.2.2 b hb1
    unfold q_mok at hmok
    rw [Bool.and_eq_true, Bool.and_eq_true, Bool.and_eq_true, Bool.and_eq_true, decide_eq_true_eq, decide_eq_true_eq, decide_eq_true_eq, decide_eq_true_eq] at hmok
    obtain ⟨⟨⟨⟨hh1, hh2⟩, -⟩, -⟩, -⟩ := hmok
    have hfix : CallFix p m c cc ll.size s args Ts (q_ow o) := ⟨hx, hb, hml, hown, hts⟩
    have hgood := q_wm_good hT hb1
    have kk2 : ∀ (H1 : Heap) (locs1 : List Loc), q_Rp G S' H1 → va_S (q_A G) s.heap H1 locs1 → W p l e R s m args below meth c H1 locs1 (cells + (S'.2.2.1.length - S.2.2.1.length)) (slots + (S'.2.2.2 - S.2.2.2)) Q (F0 m (bp + 3) ll ((q_ov G r).toList ++ (st.drop a).map (q_cv G))) := by
      intro H1 locs1 g1 g2
      have := kk H1 locs1 g1 g2
      rw [q_push_cv hG] at this
      exact this
    split at hk
    · rename_i o' idx k b' hct
      simp only [Bool.and_eq_true, beq_iff_eq] at hk
      obtain ⟨⟨e1, e2⟩, hk⟩ := hk
      obtain rfl : o = o' := e1.symm
      obtain rfl : b = b' := e2.symm
      have hcw := hT.2.2.1 _ (List.mem_of_getElem? hct)
      split at hk
      · -- static
        rename_i i
        simp only [Bool.and_eq_true, Bool.or_eq_true, beq_iff_eq, decide_eq_true_eq] at hk
        obtain ⟨⟨⟨rfl, -⟩, hnp⟩, rfl | ⟨rfl, hnest⟩⟩ := hk
        · refine q_callR (va_runS (As := ((st.take a).reverse).map (q_cv G)) (rest := (st.drop a).map (q_cv G)) hfix hM (va_cwS a hts (q_good_app hT hb1 hcw) rfl rfl rfl ⟨hh1, hh2, hnp⟩ hRoom) ⟨q_Pc_blind, hPc⟩ rfl (by rw [List.length_map, hlen]) rfl hst hW hd hf) hS kk2
        · have hnw := hK.2.2.2.2.2.2.1 _ (List.contains_iff_mem.mp hnest)
          refine q_callR (va_runSN (As := ((st.take a).reverse).map (q_cv G)) (rest := (st.drop a).map (q_cv G)) hfix hM ⟨va_cnB a hts hgood rfl rfl rfl hnw (hts _ (hcw _ (by simp [q_cw]))) ⟨hh1, hh2, hnp⟩ hRoom, hts _ (hcw _ (by simp [q_cw])), trivial⟩ ⟨q_Pc_blind, hPc⟩ rfl (by rw [List.length_map, hlen]) rfl hst hW hd hf) hS kk2
      · -- virtual
        rename_i i
        simp only [Bool.and_eq_true, Bool.or_eq_true, beq_iff_eq, decide_eq_true_eq] at hk
        obtain ⟨⟨⟨rfl, hnp⟩, ha1⟩, hk⟩ := hk
        have ht : ∃ ci t2, t = ci :: t2 ∧ ci < 14 := by
          rcases hk with ⟨-, h⟩ | ⟨-, rfl⟩
          · split at h
            · simp only [Bool.and_eq_true, decide_eq_true_eq] at h
              exact ⟨_, _, rfl, h.1⟩
            · cases h
          · exact ⟨0, [], rfl, by decide⟩
        obtain ⟨ci, t2, rfl, h14⟩ := ht
        obtain ⟨o1, as', has, ho1, hsh⟩ := q_rcv_of hrcv
        have hst2 : st.map (q_cv G) = (as'.map (q_cv G)).reverse ++ .ref (q_base G + o1) :: (st.drop a).map (q_cv G) := by
          rw [hst, has, List.map_cons, List.reverse_cons, List.append_assoc]
          show _ = _ ++ (Value.ref (q_base G + o1) :: _)
          rw [← q_rvo ho1]; rfl
        have hlen2 : (as'.map (q_cv G)).length = a - 1 := by rw [has] at hlen; rw [List.length_map]; rw [List.length_cons] at hlen; omega
        rw [has] at hM
        have hPc2 : ∀ U : State, U.heap = H → s.WarmedH U.vm → q_Pc G (.inr (.inr o1) :: as') S (Value.ref (q_base G + o1) :: as'.map (q_cv G)).toArray U := fun U hU hW => by
          have := hPc U hU hW
          rw [has, List.map_cons] at this
          rw [← q_rvo ho1]
          exact this
        have hrc := q_recv hK hR h14 hsh
        rcases hk with ⟨rfl, h⟩ | ⟨rfl, h⟩
        · split at h
          · rename_i ci2 heq
            simp only [Bool.and_eq_true, decide_eq_true_eq, beq_iff_eq] at h
            cases heq
            refine q_callR (va_runV (C := (q_clq ci).1) (As := as'.map (q_cv G)) (rest := (st.drop a).map (q_cv G)) hfix hM (cwV (a - 1) hts (q_good_app hT hb1 (by rw [h.2]; exact hcw)) rfl rfl rfl ⟨h.2.symm, hh1, hh2, hnp⟩ hRoom) ⟨q_Pc_blind, hrc, hPc2⟩ rfl hlen2 rfl hst2 hW hd hf) hS kk2
          · cases h
        · cases h
          refine q_callR (va_runU (C := (q_clq 0).1) (owner := (q_mn b).cls) (x := q_mn b) (As := as'.map (q_cv G)) (rest := (st.drop a).map (q_cv G)) hfix hM (va_cwU (a - 1) hts (q_good_app hT hb1 hcw) rfl rfl rfl rfl ⟨hh1, hh2, hnp⟩ hRoom) ⟨q_Pc_blind, hrc, hPc2⟩ rfl hlen2 rfl hst2 hW hd hf) hS kk2
      · -- special
        rename_i i
        simp only [Bool.and_eq_true, Bool.or_eq_true, beq_iff_eq, decide_eq_true_eq] at hk
        obtain ⟨⟨⟨rfl, hnp⟩, ha1⟩, hk⟩ := hk
        have ht : ∃ ci t2, t = ci :: t2 ∧ ci < 14 := by
          rcases hk with ⟨⟨⟨-, h⟩, -⟩, -⟩ | ⟨⟨-, rfl⟩, -⟩
          · split at h
            · simp only [decide_eq_true_eq] at h
              exact ⟨_, _, rfl, h⟩
            · cases h
          · exact ⟨0, [], rfl, by decide⟩
        obtain ⟨ci, t2, rfl, h14⟩ := ht
        obtain ⟨o1, as', has, ho1, hsh⟩ := q_rcv_of hrcv
        have hst2 : st.map (q_cv G) = (as'.map (q_cv G)).reverse ++ .ref (q_base G + o1) :: (st.drop a).map (q_cv G) := by
          rw [hst, has, List.map_cons, List.reverse_cons, List.append_assoc]
          show _ = _ ++ (Value.ref (q_base G + o1) :: _)
          rw [← q_rvo ho1]; rfl
        have hlen2 : (as'.map (q_cv G)).length = a - 1 := by rw [has] at hlen; rw [List.length_map]; rw [List.length_cons] at hlen; omega
        rw [has] at hM
        have hPc2 : ∀ U : State, U.heap = H → s.WarmedH U.vm → q_Pc G (.inr (.inr o1) :: as') S (Value.ref (q_base G + o1) :: as'.map (q_cv G)).toArray U := fun U hU hW => by
          have := hPc U hU hW
          rw [has, List.map_cons] at this
          rw [← q_rvo ho1]
          exact this
        have hrc := q_recv hK hR h14 hsh
        rcases hk with ⟨⟨⟨rfl, -⟩, h2⟩, h3⟩ | ⟨⟨rfl, h⟩, h2⟩
        · have hg2 : GoodIn Ts (Jvm.Cond.code (q_mn b) (q_mb b) (q_ml b) none :: Ts) := by
            have := hgood
            unfold q_wm at this
            rw [h3] at this
            exact this
          have hM2 : Met l (q_mn b) (Jvm.Cond.code (q_mn b) (q_mb b) (q_ml b) none :: Ts) ({ frames := q_rf b, cells := S'.2.2.1.length - S.2.2.1.length, slots := S'.2.2.2 - S.2.2.2, locals := q_rl b }) (q_Pc G (.inr (.inr o1) :: as') S) (q_Qc G r S') (S'.2.2.1.length - S.2.2.1.length) (S'.2.2.2 - S.2.2.2) (q_A G) := by
            have := hM
            unfold q_wm at this
            rw [h3] at this
            exact this
          refine q_callR (va_runI (As := as'.map (q_cv G)) (rest := (st.drop a).map (q_cv G)) hfix hM2 (cwI (a - 1) hts hg2 rfl rfl rfl (hts _ (hcw _ (by simp [q_cw]))) (hts _ (hcw _ (by simp [q_cw]))) (hts _ (hcw _ (by simp [q_cw]))) h2 ⟨hh1, hh2, hnp⟩ hRoom) ⟨q_Pc_blind, hPc2⟩ rfl hlen2 rfl hst2 hW hd hf) hS kk2
        · cases h
          have hat : ClassAt s (q_clq 0).1 (G.1.1 0) := (hK.1.1 0 _ (q_clq_at (by decide))).2
          refine q_callR (va_runSU (C := (q_clq 0).1) (As := as'.map (q_cv G)) (rest := (st.drop a).map (q_cv G)) hat hfix hM (va_cwSU (a - 1) hts (q_good_app hT hb1 hcw) rfl rfl rfl ⟨h2, hnp⟩ hRoom) ⟨q_Pc_blind, hrc, hPc2⟩ rfl hlen2 rfl hst2 hW hd hf) hS kk2
      · cases hk
    · cases hk
  · cases hcall
end QX
