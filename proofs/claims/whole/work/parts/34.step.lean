/-! SOUNDNESS, NINE: one step. -/
def q_okI (j pc : Nat) (i : q_I) (ins : Instr) (len : Nat) : Bool := match i with
  | (op, a, b, z, t) => match op with
    | 19 => q_kB op a b (q_bp j) pc ins len
    | 38 => q_kW op b z t (q_bp j) pc ins len
    | 39 => q_kW op b z t (q_bp j) pc ins len
    | 51 => q_kR op a (q_mr j) ins len
    | 52 => q_kR op a (q_mr j) ins len
    | _ => q_bp j (pc + 1) == q_bp j pc + len && (match op with
      | 0 => q_k0 a ins len
      | 1 => q_k1 a ins len
      | 2 => q_k2 a ins len
      | 3 => q_k3 a ins len
      | 4 => q_k4 a ins len
      | 5 => q_k5 a ins len
      | 6 => q_k6 (q_oi j) z t ins len
      | 7 => q_k7 (q_oi j) z t ins len
      | 8 => q_k8 a ins len
      | 9 => q_kS 9 ins len
      | 10 => q_k10 a ins len
      | 11 => q_kS 11 ins len
      | 12 => q_kS 12 ins len
      | 13 => q_kS 13 ins len
      | 14 => q_kS 14 ins len
      | 15 => q_kS 15 ins len
      | 16 => q_kS 16 ins len
      | 17 => q_kB 17 a b (q_bp j) pc ins len
      | 18 => q_kB 18 a b (q_bp j) pc ins len
      | 20 => q_k20 a z ins len
      | 21 => q_kS 21 ins len
      | 22 => q_kS 22 ins len
      | 23 => q_kS 23 ins len
      | 24 => q_kG (q_oi j) a b t false ins len
      | 25 => q_kG (q_oi j) a b t true ins len
      | 26 => q_kP (q_oi j) a b t (q_mn j).name false z ins len
      | 27 => q_kP (q_oi j) a b t (q_mn j).name true z ins len
      | 28 => q_kA 28 b ins len
      | 29 => q_kA 29 b ins len
      | 30 => q_kA 30 b ins len
      | 31 => q_kA 31 b ins len
      | 32 => q_kA 32 b ins len
      | 33 => q_kA 33 b ins len
      | 34 => q_kT (q_oi j) a b z t ins len
      | 35 => q_kN (q_oi j) a b t ins len
      | 36 => q_kNA b ins len
      | 37 => q_kNM (q_oi j) b t ins len
      | 40 => q_kO (q_oi j) t ins len && decide (1 ≤ q_rf j) && decide (20 ≤ q_rl j)
      | 41 => q_kC (q_oi j) t ins len && decide (1 ≤ q_rf j) && decide (26 ≤ q_rl j)
      | 50 => q_kX j (q_oi j) a b z t ins len
      | _ => false)
def q_Tabs (Ts : List Jvm.Cond) : Prop := q_Tc Ts ∧ (∀ q ∈ q_ft, q_fw q ∈ Ts) ∧ (∀ (k : Nat) (q : vw_C), q_cls[k]? = some q → ∀ w ∈ u_ws q.1 q.2.1 q.2.2, w ∈ Ts) ∧ (∀ q ∈ q_kt, q_kw q ∈ Ts) ∧ (∀ q ∈ q_ku, q_kwl q ∈ Ts) ∧ (∀ q ∈ q_nt, q_nw q ∈ Ts) ∧ (∀ k, k < 14 → ∀ w ∈ q_bw k, w ∈ Ts) ∧ (∀ ty ∈ [FieldType.int, .long, .byte], Jvm.Cond.arrayClass ty ∈ Ts) ∧ (∀ q ∈ q_at, q_aw q ∈ Ts) ∧ (∀ w ∈ [Jvm.Cond.native arraycopyName, .static arraycopyName, .initialized "java/lang/System"], w ∈ Ts) ∧ (∀ q ∈ q_ot, q_otw q ∈ Ts) ∧ (∀ w ∈ [Jvm.Cond.instanceMethod objectInit, .code objectInit ⟨#[0xb1]⟩ 1 none], w ∈ Ts) ∧ (∀ q ∈ q_st, q.2.2.2.2.2 = 0 → q_stw q ∈ Ts) ∧ (∀ q ∈ q_st, ¬ q.2.2.2.2.2 = 0 → q_nestF = .fieldLinkNest (q_ow q.1) q.2.1 q.2.2.1 q.2.2.2.1 q.2.2.2.2.1 "DoubleRootSums")
def q_Cx (Ts : List Jvm.Cond) (G : q_G) (p : Program) (R : Room) (s : State) (m : MethodId) (args : Array Value) (meth : Method) (c : Code) (j n0 : Nat) : Prop := p.tables.exec = Jvm.exec ∧ c.code = q_mb j ∧ c.maxLocals = q_ml j ∧ (∀ w ∈ Ts, w.before args s = true) ∧ s.vm.findClass (q_ow (q_oi j)) = some m.cls ∧ meth.sig.returnType = q_mr j ∧ meth.locks = false ∧ meth.name = (q_mn j).name ∧ q_Kn G s ∧ s.heap.size = q_base G + n0 ∧ q_rf j ≤ R.frames ∧ q_rl j ≤ R.locals
theorem q_kG_r {o a b : Nat} {t : List Nat} {r : Bool} {ins : Instr} {len : Nat} (h : q_kG o a b t r ins len = true) : q_isr b a = r := by
  unfold q_kG at h
  split at h
  · simp only [Bool.and_eq_true, beq_iff_eq] at h
    exact h.1.2
  · cases h
section QZ
variable {p : Program} {l : Launch} {e : Env} {R : Room} {s : State} {m : MethodId} {args : Array Value} {below : List Frame} {meth : Method} {c : Code} {H : Heap} {locs : List Loc} {Q : State → Prop}
variable {ll : Array Slot} {G : q_G} {Ts : List Jvm.Cond}
set_option maxHeartbeats 4000000 in
theorem q_step_so (hT : q_Tabs Ts) {j n0 s0 : Nat} (hC : q_Cx Ts G p R s m args meth c j n0) {ins : Instr} {len pc pc2 : Nat} {ls ls2 st st2 : List q_V} {S S2 : q_S} {op a b : Nat} {z : Int} {t : List Nat} (hs : q_step (op, a, b, z, t) pc ls st S = some (pc2, ls2, st2, S2)) (hd : decode (q_mb j) (q_bp j pc) = .ok (ins, len)) (hok : q_okI j pc (op, a, b, z, t) ins len = true)
    (hL : q_Ls G ls ll) (hll : ls.length = q_ml j) (hR : q_Rp G S H) (hS : va_S (q_A G) s.heap H locs) (hn0 : n0 ≤ S.2.2.1.length) (hs0 : s0 ≤ S.2.2.2) (hbud : S2.2.2.1.length - n0 ≤ R.cells ∧ S2.2.2.2 - s0 ≤ R.slots)
    (kk : ∀ (H1 : Heap) (locs1 : List Loc) (ll1 : Array Slot), q_Ls G ls2 ll1 → ls2.length = q_ml j → q_Rp G S2 H1 → va_S (q_A G) s.heap H1 locs1 → W p l e R s m args below meth c H1 locs1 (S2.2.2.1.length - n0) (S2.2.2.2 - s0) Q (F0 m (q_bp j pc2) ll1 (st2.map (q_cv G)))) : W p l e R s m args below meth c H locs (S.2.2.1.length - n0) (S.2.2.2 - s0) Q (F0 m (q_bp j pc) ll (st.map (q_cv G))) := by
  obtain ⟨hx, hb, hml, hts, hown, hr, hlocks, hnm, hK, hn, hRf, hRl⟩ := hC
  obtain ⟨hTc, hft, hlay, hkt, hku, hnt, hbw, haw, hat, hw2, hot, hw3, hst, hst2⟩ := hT
  have hG := hK.2.2.2.2.2.2.2.2.2.2.2.2
  have hml2 : c.maxLocals = ll.size := by rw [hml, ← hll, hL.1]
  have l1 : ∀ v, (q_set1 ls a v).length = q_ml j := fun v => by rw [← hll]; simp [q_set1, q_cut_len]
  have l2 : ∀ v, (q_set2 ls a v).length = q_ml j := fun v => by rw [← hll]; simp [q_set2, q_cut_len]
  match op, hs, hok with
  | 0, hs, hok =>
    simp only [q_okI, Bool.and_eq_true, beq_iff_eq] at hok
    simp only [q_step] at hs
    split at hs
    · cases hs
      exact q_o0 hx hb hL ‹_› hd hok.2 hok.1 (kk _ _ _ hL hll hR hS)
    · cases hs
  | 1, hs, hok =>
    simp only [q_okI, Bool.and_eq_true, beq_iff_eq] at hok
    simp only [q_step] at hs
    split at hs
    · cases hs
      exact q_o1 hx hb hL ‹_› hd hok.2 hok.1 (kk _ _ _ hL hll hR hS)
    · cases hs
  | 2, hs, hok =>
    simp only [q_okI, Bool.and_eq_true, beq_iff_eq] at hok
    simp only [q_step] at hs
    split at hs
    · split at hs
      · cases hs
        exact q_o2 hx hb hL ‹_› ‹_› hd hok.2 hok.1 (kk _ _ _ hL hll hR hS)
      · cases hs
    · cases hs
  | 3, hs, hok =>
    simp only [q_okI, Bool.and_eq_true, beq_iff_eq] at hok
    simp only [q_step] at hs
    split at hs
    · split at hs
      · cases hs
        exact q_o3 hG hx hb hL ‹_› hd hok.2 hok.1 (fun ll1 h => kk _ _ _ h (l1 _) hR hS)
      · cases hs
    · cases hs
  | 4, hs, hok =>
    simp only [q_okI, Bool.and_eq_true, beq_iff_eq] at hok
    simp only [q_step] at hs
    split at hs
    · split at hs
      · cases hs
        exact q_o4 hG hx hb hL ‹_› hd hok.2 hok.1 (fun ll1 h => kk _ _ _ h (l2 _) hR hS)
      · cases hs
    · cases hs
  | 5, hs, hok =>
    simp only [q_okI, Bool.and_eq_true, beq_iff_eq] at hok
    simp only [q_step] at hs
    split at hs
    · split at hs
      · rename_i h1
        cases hs
        exact q_o5 hG hx hb hL h1.1 h1.2 hd hok.2 hok.1 (fun ll1 h => kk _ _ _ h (l1 _) hR hS)
      · cases hs
    · cases hs
  | 6, hs, hok =>
    simp only [q_okI, Bool.and_eq_true, beq_iff_eq] at hok
    simp only [q_step] at hs
    cases hs
    exact q_o6 hx hb hown (fun q hq => hts _ (hkt q hq)) hd hok.2 hok.1 (kk _ _ _ hL hll hR hS)
  | 7, hs, hok =>
    simp only [q_okI, Bool.and_eq_true, beq_iff_eq] at hok
    simp only [q_step] at hs
    cases hs
    exact q_o7 hx hb hown (fun q hq => hts _ (hku q hq)) hd hok.2 hok.1 (kk _ _ _ hL hll hR hS)
  | 8, hs, hok =>
    simp only [q_okI, Bool.and_eq_true, beq_iff_eq] at hok
    simp only [q_step] at hs
    split at hs
    · split at hs
      · cases hs
      · cases hs
        exact q_o8 hx hb ‹_› hd hok.2 hok.1 (kk _ _ _ hL hll hR hS)
    · cases hs
  | 10, hs, hok =>
    simp only [q_okI, Bool.and_eq_true, beq_iff_eq] at hok
    simp only [q_step] at hs
    split at hs
    · split at hs
      · cases hs
      · cases hs
        exact q_o10 hx hb ‹_› hd hok.2 hok.1 (kk _ _ _ hL hll hR hS)
    · cases hs
  | 9, hs, hok =>
    simp only [q_okI, Bool.and_eq_true, beq_iff_eq] at hok
    simp only [q_step] at hs
    split at hs
    · cases hs
      exact q_oS hx hb hG hd hok.2 hok.1 (Or.inl ⟨_, _, rfl, rfl, rfl⟩) (kk _ _ _ hL hll hR hS)
    · cases hs
  | 11, hs, hok =>
    simp only [q_okI, Bool.and_eq_true, beq_iff_eq] at hok
    simp only [q_step] at hs
    split at hs
    · cases hs
      exact q_oS hx hb hG hd hok.2 hok.1 (Or.inr (Or.inl ⟨_, _, _, rfl, rfl, rfl⟩)) (kk _ _ _ hL hll hR hS)
    · cases hs
  | 12, hs, hok =>
    simp only [q_okI, Bool.and_eq_true, beq_iff_eq] at hok
    simp only [q_step] at hs
    split at hs
    · cases hs
      exact q_oS hx hb hG hd hok.2 hok.1 (Or.inr (Or.inr (Or.inl ⟨_, _, _, rfl, rfl, rfl⟩))) (kk _ _ _ hL hll hR hS)
    · cases hs
  | 13, hs, hok =>
    simp only [q_okI, Bool.and_eq_true, beq_iff_eq] at hok
    simp only [q_step] at hs
    split at hs
    · cases hs
      exact q_oS hx hb hG hd hok.2 hok.1 (Or.inr (Or.inr (Or.inr (Or.inl ⟨_, _, rfl, rfl, rfl⟩)))) (kk _ _ _ hL hll hR hS)
    · cases hs
  | 14, hs, hok =>
    simp only [q_okI, Bool.and_eq_true, beq_iff_eq] at hok
    simp only [q_step] at hs
    split at hs
    · cases hs
      exact q_oS hx hb hG hd hok.2 hok.1 (Or.inr (Or.inr (Or.inr (Or.inr (Or.inl ⟨_, _, rfl, rfl, rfl⟩))))) (kk _ _ _ hL hll hR hS)
    · cases hs
  | 15, hs, hok =>
    simp only [q_okI, Bool.and_eq_true, beq_iff_eq] at hok
    simp only [q_step] at hs
    split at hs
    · cases hs
      exact q_oS hx hb hG hd hok.2 hok.1 (Or.inr (Or.inr (Or.inr (Or.inr (Or.inr (Or.inl ⟨_, _, rfl, rfl, rfl⟩)))))) (kk _ _ _ hL hll hR hS)
    · cases hs
  | 16, hs, hok =>
    simp only [q_okI, Bool.and_eq_true, beq_iff_eq] at hok
    simp only [q_step] at hs
    split at hs
    · cases hs
      exact q_oS hx hb hG hd hok.2 hok.1 (Or.inr (Or.inr (Or.inr (Or.inr (Or.inr (Or.inr (Or.inl ⟨_, _, rfl, rfl, rfl⟩))))))) (kk _ _ _ hL hll hR hS)
    · cases hs
  | 17, hs, hok =>
    simp only [q_okI, Bool.and_eq_true, beq_iff_eq] at hok
    simp only [q_step] at hs
    split at hs
    · cases hs
      exact q_oB hx hb rfl hok.1 hd hok.2 (Or.inl ⟨_, rfl, rfl, rfl⟩) (Or.inl rfl) (kk _ _ _ hL hll hR hS)
    · cases hs
  | 18, hs, hok =>
    simp only [q_okI, Bool.and_eq_true, beq_iff_eq] at hok
    simp only [q_step] at hs
    split at hs
    · cases hs
      exact q_oB hx hb rfl hok.1 hd hok.2 (Or.inr (Or.inl ⟨_, _, rfl, rfl, rfl⟩)) (Or.inl rfl) (kk _ _ _ hL hll hR hS)
    · cases hs
  | 19, hs, hok =>
    simp only [q_okI] at hok
    simp only [q_step] at hs
    cases hs
    exact q_oB hx hb rfl rfl hd hok (Or.inr (Or.inr ⟨rfl, rfl, rfl⟩)) (Or.inr rfl) (kk _ _ _ hL hll hR hS)
  | 20, hs, hok =>
    simp only [q_okI, Bool.and_eq_true, beq_iff_eq] at hok
    simp only [q_step] at hs
    split at hs
    · cases hs
      exact q_o20 hG hx hb hL ‹_› hd hok.2 hok.1 (fun ll1 h => kk _ _ _ h (l1 _) hR hS)
    · cases hs
  | 21, hs, hok =>
    simp only [q_okI, Bool.and_eq_true, beq_iff_eq] at hok
    simp only [q_step] at hs
    split at hs
    · cases hs
      exact q_oS hx hb hG hd hok.2 hok.1 (Or.inr (Or.inr (Or.inr (Or.inr (Or.inr (Or.inr (Or.inr (Or.inl ⟨_, _, rfl, rfl, rfl, rfl⟩)))))))) (kk _ _ _ hL hll hR hS)
    · cases hs
      exact q_oS hx hb hG hd hok.2 hok.1 (Or.inr (Or.inr (Or.inr (Or.inr (Or.inr (Or.inr (Or.inr (Or.inl ⟨_, _, rfl, rfl, rfl, rfl⟩)))))))) (kk _ _ _ hL hll hR hS)
    · cases hs
  | 22, hs, hok =>
    simp only [q_okI, Bool.and_eq_true, beq_iff_eq] at hok
    simp only [q_step] at hs
    split at hs
    · cases hs
      exact q_oS hx hb hG hd hok.2 hok.1 (Or.inr (Or.inr (Or.inr (Or.inr (Or.inr (Or.inr (Or.inr (Or.inr (Or.inl ⟨_, _, rfl, rfl, rfl, rfl⟩))))))))) (kk _ _ _ hL hll hR hS)
    · cases hs
      exact q_oS hx hb hG hd hok.2 hok.1 (Or.inr (Or.inr (Or.inr (Or.inr (Or.inr (Or.inr (Or.inr (Or.inr (Or.inl ⟨_, _, rfl, rfl, rfl, rfl⟩))))))))) (kk _ _ _ hL hll hR hS)
    · cases hs
  | 23, hs, hok =>
    simp only [q_okI, Bool.and_eq_true, beq_iff_eq] at hok
    simp only [q_step] at hs
    split at hs
    · cases hs
      exact q_oS hx hb hG hd hok.2 hok.1 (Or.inr (Or.inr (Or.inr (Or.inr (Or.inr (Or.inr (Or.inr (Or.inr (Or.inr ⟨_, _, _, rfl, rfl, rfl, rfl, rfl⟩))))))))) (kk _ _ _ hL hll hR hS)
    · cases hs
  | 24, hs, hok =>
    simp only [q_okI, Bool.and_eq_true, beq_iff_eq] at hok
    simp only [q_step] at hs
    split at hs
    · split at hs
      · rename_i o r h1
        cases hs
        refine q_oG hx hb hts hft hlay hown hK hR h1.2 hd hok.2 hok.1 h1.1 ?_
        have hi := q_kG_r hok.2
        have := kk _ _ _ hL hll hR hS
        unfold q_fv
        rw [hi]
        exact this
      · cases hs
    · cases hs
  | 25, hs, hok =>
    simp only [q_okI, Bool.and_eq_true, beq_iff_eq] at hok
    simp only [q_step] at hs
    split at hs
    · split at hs
      · rename_i o r h1
        cases hs
        refine q_oG hx hb hts hft hlay hown hK hR h1.2 hd hok.2 hok.1 h1.1 ?_
        have hi := q_kG_r hok.2
        have := kk _ _ _ hL hll hR hS
        unfold q_fv
        rw [hi]
        exact this
      · cases hs
    · cases hs
  | 26, hs, hok =>
    simp only [q_okI, Bool.and_eq_true, beq_iff_eq] at hok
    simp only [q_step] at hs
    split at hs
    · split at hs
      · rename_i x o r _ h1
        cases hs
        exact q_oP hx hb hts hft hlay hown hnm hK hR hS h1.2.1 h1.1 hd hok.2 hok.1 (v := .inl x) (Or.inl ⟨rfl, x, rfl, h1.2.2.1, h1.2.2.2, rfl⟩) (fun H1 locs1 g1 g2 => kk _ _ _ hL hll g1 g2)
      · cases hs
    · cases hs
  | 27, hs, hok =>
    simp only [q_okI, Bool.and_eq_true, beq_iff_eq] at hok
    simp only [q_step] at hs
    split at hs
    · split at hs
      · rename_i k o r _ h1
        cases hs
        exact q_oP hx hb hts hft hlay hown hnm hK hR hS h1.2.2 h1.1 hd hok.2 hok.1 (v := .inr (.inr k)) (Or.inr ⟨rfl, k, rfl, h1.2.1, rfl⟩) (fun H1 locs1 g1 g2 => kk _ _ _ hL hll g1 g2)
      · cases hs
    · cases hs
  | 28, hs, hok =>
    simp only [q_okI, Bool.and_eq_true, beq_iff_eq] at hok
    simp only [q_step] at hs
    split at hs
    · split at hs
      · split at hs
        · cases hs
          exact q_o28 hx hb hK hR hS ‹_› ‹_› hd hok.2 hok.1 (kk _ _ _ hL hll hR hS)
        · cases hs
      · cases hs
    · cases hs
  | 29, hs, hok =>
    simp only [q_okI, Bool.and_eq_true, beq_iff_eq] at hok
    simp only [q_step] at hs
    split at hs
    · split at hs
      · split at hs
        · cases hs
          exact q_o29 hx hb hK hR hS ‹_› ‹_› hd hok.2 hok.1 (fun H1 locs1 g1 g2 => kk _ _ _ hL hll g1 g2)
        · cases hs
      · cases hs
    · cases hs
  | 30, hs, hok =>
    simp only [q_okI, Bool.and_eq_true, beq_iff_eq] at hok
    simp only [q_step] at hs
    split at hs
    · split at hs
      · split at hs
        · cases hs
          exact q_o30 hx hb hK hR ‹_› ‹_› hd hok.2 hok.1 (kk _ _ _ hL hll hR hS)
        · cases hs
      · cases hs
    · cases hs
  | 31, hs, hok =>
    simp only [q_okI, Bool.and_eq_true, beq_iff_eq] at hok
    simp only [q_step] at hs
    split at hs
    · split at hs
      · split at hs
        · cases hs
          exact q_o31 hx hb hK hR hS ‹_› ‹_› hd hok.2 hok.1 (fun H1 locs1 g1 g2 => kk _ _ _ hL hll g1 g2)
        · cases hs
      · cases hs
    · cases hs
  | 32, hs, hok =>
    simp only [q_okI, Bool.and_eq_true, beq_iff_eq] at hok
    simp only [q_step] at hs
    split at hs
    · split at hs
      · split at hs
        · cases hs
          exact q_o32 hx hb hK hR ‹_› ‹_› hd hok.2 hok.1 (kk _ _ _ hL hll hR hS)
        · cases hs
      · cases hs
    · cases hs
  | 33, hs, hok =>
    simp only [q_okI, Bool.and_eq_true, beq_iff_eq] at hok
    simp only [q_step] at hs
    split at hs
    · split at hs
      · split at hs
        · cases hs
          exact q_o33 hx hb hK hR hS ‹_› ‹_› hd hok.2 hok.1 (kk _ _ _ hL hll hR hS)
        · cases hs
      · cases hs
    · cases hs
  | 34, hs, hok =>
    simp only [q_okI, Bool.and_eq_true, beq_iff_eq] at hok
    simp only [q_step] at hs
    cases hs
    exact q_o34 hx hb hts hst hst2 hown hK hS hd hok.2 hok.1 (kk _ _ _ hL hll hR hS)
  | 35, hs, hok =>
    simp only [q_okI, Bool.and_eq_true, beq_iff_eq] at hok
    simp only [q_step] at hs
    split at hs
    · cases hs
      have e1 : (q_new S [(b + 5, a)] a).2.2.1.length = S.2.2.1.length + 1 := by simp [q_new]
      have e2 : (q_new S [(b + 5, a)] a).2.2.2 = S.2.2.2 + a := rfl
      rw [e1, e2] at hbud kk
      refine q_o35 hx hb hts hlay hnt hbw hown hK hR hS hn rfl hn0 ‹_› (by omega) (by omega) hd hok.2 hok.1 (fun H1 g1 g2 => ?_)
      have := kk _ _ _ hL hll g1 g2
      rw [show S.2.2.1.length + 1 - n0 = S.2.2.1.length - n0 + 1 by omega, show S.2.2.2 + a - s0 = S.2.2.2 - s0 + a by omega] at this
      exact this
    · cases hs
  | 36, hs, hok =>
    simp only [q_okI, Bool.and_eq_true, beq_iff_eq] at hok
    simp only [q_step] at hs
    split at hs
    · split at hs
      · rename_i n r _ h1
        cases hs
        have e1 : (q_new S [(b, n.toNat)] n.toNat).2.2.1.length = S.2.2.1.length + 1 := by simp [q_new]
        have e2 : (q_new S [(b, n.toNat)] n.toNat).2.2.2 = S.2.2.2 + n.toNat := rfl
        rw [e1, e2] at hbud kk
        refine q_o36 hx hb hts haw hK hR hS hn rfl hn0 h1 (by omega) (by omega) hd hok.2 hok.1 (fun H1 g1 g2 => ?_)
        have := kk _ _ _ hL hll g1 g2
        rw [show S.2.2.1.length + 1 - n0 = S.2.2.1.length - n0 + 1 by omega, show S.2.2.2 + n.toNat - s0 = S.2.2.2 - s0 + n.toNat by omega] at this
        exact this
      · cases hs
    · cases hs
  | 37, hs, hok =>
    simp only [q_okI, Bool.and_eq_true, beq_iff_eq] at hok
    simp only [q_step] at hs
    split at hs
    · split at hs
      · rename_i k n r _ h1
        cases hs
        have e1 : (q_mna S b n.toNat k.toNat).2.2.1.length = S.2.2.1.length + 1 + n.toNat := by simp [q_mna, q_new]; omega
        have e2 : (q_mna S b n.toNat k.toNat).2.2.2 = S.2.2.2 + (n.toNat + n.toNat * k.toNat) := rfl
        have hbud2 : (q_mna S b n.toNat k.toNat).2.2.1.length - n0 ≤ R.cells ∧ (q_mna S b n.toNat k.toNat).2.2.2 - s0 ≤ R.slots := hbud
        rw [e1, e2] at hbud2
        generalize hM : n.toNat * k.toNat = M at hbud2 e2
        refine q_o37 hx hb hts haw hnt hown hK hR hS hn rfl hn0 h1 (by omega) (by rw [hM]; omega) hd hok.2 hok.1 (fun H1 g1 g2 => ?_)
        have := kk H1 _ _ hL hll g1 g2
        have e3 : ∀ X : Nat × Nat, X = ((q_mna S b n.toNat k.toNat).2.2.1.length - n0, (q_mna S b n.toNat k.toNat).2.2.2 - s0) → X = (S.2.2.1.length - n0 + 1 + n.toNat, S.2.2.2 - s0 + n.toNat + M) := fun X hX => by
          rw [hX, e1, e2]
          exact Prod.ext (show _ = _ by dsimp only; omega) (show _ = _ by dsimp only; omega)
        have e4 := e3 _ rfl
        have e5 : (q_mna S b n.toNat k.toNat).2.2.1.length - n0 = S.2.2.1.length - n0 + 1 + n.toNat := congrArg Prod.fst e4
        have e6 : (q_mna S b n.toNat k.toNat).2.2.2 - s0 = S.2.2.2 - s0 + n.toNat + M := congrArg Prod.snd e4
        rw [hM]
        rw [← e5, ← e6]
        exact this
      · cases hs
    · cases hs
  | 38, hs, hok =>
    simp only [q_okI] at hok
    simp only [q_step] at hs
    split at hs
    · cases hs
      exact q_oW hx hb rfl hd hok (Or.inl ⟨rfl, rfl⟩) (kk _ _ _ hL hll hR hS)
    · cases hs
  | 39, hs, hok =>
    simp only [q_okI] at hok
    simp only [q_step] at hs
    split at hs
    · cases hs
      exact q_oW hx hb rfl hd hok (Or.inr ⟨rfl, rfl⟩) (kk _ _ _ hL hll hR hS)
    · cases hs
  | 40, hs, hok =>
    simp only [q_okI, Bool.and_eq_true, beq_iff_eq, decide_eq_true_eq] at hok
    simp only [q_step] at hs
    split at hs
    · split at hs
      · cases hs
        exact q_o40 hx hb hml2 hts hot hw3 hown hG ‹_› (by omega) (by omega) hd hok.2.1.1 hok.1 (kk _ _ _ hL hll hR hS)
      · cases hs
    · cases hs
  | 41, hs, hok =>
    simp only [q_okI, Bool.and_eq_true, beq_iff_eq, decide_eq_true_eq] at hok
    simp only [q_step] at hs
    split at hs
    · split at hs
      · split at hs
        · cases hs
          have hnf : nativeFrameWords "java/lang/System" "arraycopy" 5 = 7 := by decide +kernel
          exact q_o41 hx hb hml2 hts hat hw2 hown hK hR hS ‹_› ‹_› ‹_› (by omega) (by rw [hnf]; omega) hd hok.2.1.1 hok.1 (fun H1 locs1 g1 g2 => kk _ _ _ hL hll g1 g2)
        · cases hs
      · cases hs
    · cases hs
  | n + 42, hs, hok => simp [q_step] at hs
end QZ
