/-! SOUNDNESS, TEN: a run of the abstract machine is a run of the machine. -/
def q_ck (j pc : Nat) (i : q_I) : Bool := if i.1 = 99 then true else match decode (q_mb j) (q_bp j pc) with
  | .ok (ins, len) => q_okI j pc i ins len
  | .error _ => false
def q_Chk : Prop := ∀ (j pc : Nat) (i : q_I), (q_P j).1[pc]? = some i → q_ck j pc i = true
theorem q_ck_of {j pc : Nat} {i : q_I} (h : q_ck j pc i = true) (h9 : ¬ i.1 = 99) : ∃ ins len, decode (q_mb j) (q_bp j pc) = .ok (ins, len) ∧ q_okI j pc i ins len = true := by
  unfold q_ck at h
  rw [if_neg h9] at h
  split at h
  · exact ⟨_, _, ‹_›, h⟩
  · cases h
theorem q_args_sl {G : q_G} (hG : q_gok G) : ∀ (as : List q_V), (lg_sl (as.map (q_cv G))).length = (q_args as).length ∧ ∀ (i : Nat) (v : q_V), (q_args as)[i]? = some v → ¬ v = q_dead → (lg_sl (as.map (q_cv G)))[i]? = some (.val (q_cv G v))
  | [] => ⟨rfl, fun i v h => by simp [q_args] at h⟩
  | x :: as => by
    obtain ⟨h1, h2⟩ := q_args_sl hG as
    have hc := q_cat1 hG x
    match x, hc with
    | .inr (.inl z), hc =>
      have e : lg_sl ((Sum.inr (Sum.inl z) :: as).map (q_cv G)) = .val (.long (Int64.ofInt z)) :: .second :: lg_sl (as.map (q_cv G)) := rfl
      rw [e]
      refine ⟨by simp [q_args, h1], fun i v h hd => ?_⟩
      match i with
      | 0 => simp [q_args] at h; subst h; rfl
      | 1 => simp [q_args] at h; exact absurd h.symm hd
      | i + 2 => exact h2 i v (by simpa [q_args] using h) hd
    | .inl z, hc =>
      have e : lg_sl ((Sum.inl z :: as).map (q_cv G)) = .val (.int (Int32.ofInt z)) :: lg_sl (as.map (q_cv G)) := rfl
      rw [e]
      refine ⟨by simp [q_args, h1], fun i v h hd => ?_⟩
      match i with
      | 0 => simp [q_args] at h; subst h; rfl
      | i + 1 => exact h2 i v (by simpa [q_args] using h) hd
    | .inr (.inr k), hc =>
      have e : lg_sl ((Sum.inr (Sum.inr k) :: as).map (q_cv G)) = .val (q_rv G k) :: lg_sl (as.map (q_cv G)) := by
        have hc : 1 = (q_rv G k).category := hc
        simp only [lg_sl, List.map_cons, List.flatMap_cons]
        show (if (q_rv G k).category = 2 then _ else _) ++ _ = _
        rw [← hc]
        rfl
      rw [e]
      refine ⟨by simp [q_args, h1], fun i v h hd => ?_⟩
      match i with
      | 0 => simp [q_args] at h; subst h; rfl
      | i + 1 => exact h2 i v (by simpa [q_args] using h) hd
theorem q_entry {G : q_G} (hG : q_gok G) {as : List q_V} {n : Nat} (h : (q_args as).length ≤ n) : q_Ls G (q_pad (q_args as) n) ((lg_sl (as.map (q_cv G)) ++ List.replicate (n - (lg_sl (as.map (q_cv G))).length) Slot.unset).toArray) ∧ (q_pad (q_args as) n).length = n := by
  obtain ⟨h1, h2⟩ := q_args_sl hG as
  have hl : (q_pad (q_args as) n).length = n := by simp [q_pad]; omega
  obtain ⟨e1, e2, -⟩ := lv_entry (as.map (q_cv G)) (n := n) (by rw [h1]; exact h)
  refine ⟨⟨by rw [e1, hl], e2, fun i v hv hd => ?_⟩, hl⟩
  unfold q_pad at hv
  by_cases hi : i < (q_args as).length
  · rw [List.getElem?_append_left hi] at hv
    have := h2 i v hv hd
    rw [List.getElem?_toArray, List.getElem?_append_left (by rw [h1]; exact hi)]
    exact this
  · rw [List.getElem?_append_right (by omega)] at hv
    exact absurd (List.mem_replicate.mp (List.mem_of_getElem? hv)).2 hd
theorem q_char : ∀ n : Nat, n < 256 → narrow .char (.int (Int32.ofInt (n : Int))) = .int (Int32.ofInt (n : Int)) := by decide +kernel
section QS
variable {p : Program} {l : Launch} {e : Env} {R : Room} {s : State} {m : MethodId} {args : Array Value} {below : List Frame} {meth : Method} {c : Code} {H : Heap} {locs : List Loc}
variable {ll : Array Slot} {G : q_G} {Ts : List Jvm.Cond}
theorem q_oR {j n0 : Nat} {cells slots : Nat} (hC : q_Cx Ts G p R s m args meth c j n0) {ins : Instr} {len pc : Nat} {st : List q_V} {S : q_S} {op a : Nat} {r : q_V} (hd : decode (q_mb j) (q_bp j pc) = .ok (ins, len)) (hok : q_kR op a (q_mr j) ins len = true)
    (hr : (op = 51 ∧ q_ret (51, a, 0, 0, []) st = some r) ∨ (op = 52 ∧ r = q_dead ∧ st = [])) (hR : q_Rp G S H) (hS : va_S (q_A G) s.heap H locs) (hc0 : cells = S.2.2.1.length - n0) (hn0 : n0 ≤ S.2.2.1.length) : W p l e R s m args below meth c H locs cells slots (MQ below (q_Qc G r S) args s cells slots (q_A G)) (F0 m (q_bp j pc) ll (st.map (q_cv G))) := by
  obtain ⟨hx, hb, hml, hts, hown, hret, hlocks, hnm, hK, hn, hRf, hRl⟩ := hC
  refine q_size fun hsz => ?_
  have hlo := q_low hR.1 hS hn
  have hH : H.size = q_base G + S.2.2.1.length := by omega
  have post : ∀ (v : Option Value), q_ov G r = v → ∀ t : State, t.heap = H → s.WarmedH t.vm → q_Qc G r S args s (.returned v) t := fun v hv t ht _ => by
    have hF := hS.F ht
    subst hv
    exact ⟨rfl, by rw [ht]; exact hR, hF, by rw [ht]; exact hH⟩
  have hdead : ∀ v : q_V, (∀ k, v = .inr (.inr k) → k < 1000) → ¬ v = q_dead := fun v hv h => by have := hv 1009 h; omega
  unfold q_kR at hok
  rw [Bool.and_eq_true, beq_iff_eq] at hok
  obtain ⟨rfl, hok⟩ := hok
  rcases hr with ⟨rfl, hr⟩ | ⟨rfl, rfl, rfl⟩
  · simp only [q_ret] at hr
    split at hr
    · rename_i x
      cases hr
      split at hok <;> (try simp only [Bool.and_eq_true, Bool.or_eq_true, beq_iff_eq, decide_eq_true_eq] at hok) <;> first | (exact absurd hok.1 (by decide)) | (exact absurd hok.1.2 (by decide)) | (exact absurd hok (by decide)) | skip
      rcases hok.2 with ((⟨-, h2⟩ | ⟨h1, -⟩) | ⟨h1, -⟩)
      · exact W.iret hx hb (hret.trans h2) (post _ (by unfold q_ov; rw [if_neg (hdead _ (fun k h => by cases h))]; rfl)) hS.2.2 hd hlocks
      · cases h1
      · cases h1
    · rename_i x
      split at hr
      · cases hr
        split at hok <;> (try simp only [Bool.and_eq_true, Bool.or_eq_true, beq_iff_eq, decide_eq_true_eq] at hok) <;> first | (exact absurd hok.1 (by decide)) | (exact absurd hok.1.2 (by decide)) | (exact absurd hok (by decide)) | skip
        rcases hok.2 with ((⟨h1, -⟩ | ⟨-, h2⟩) | ⟨h1, -⟩)
        · cases h1
        · refine W.zret (ty := .boolean) hx hb (hret.trans h2) ?_ (post _ (by unfold q_ov; rw [if_neg (hdead _ (fun k h => by cases h))]; rfl)) hS.2.2 hd hlocks
          rcases ‹x = 0 ∨ x = 1› with rfl | rfl <;> rfl
        · cases h1
      · cases hr
    · rename_i x
      cases hr
      split at hok <;> (try simp only [Bool.and_eq_true, Bool.or_eq_true, beq_iff_eq, decide_eq_true_eq] at hok) <;> first | (exact absurd hok.1 (by decide)) | (exact absurd hok.1.2 (by decide)) | (exact absurd hok (by decide)) | skip
      · rcases hok.2 with ((⟨h1, -⟩ | ⟨h1, -⟩) | ⟨h1, -⟩) <;> cases h1
      · exact W.lret hx hb (hret.trans hok.2) (post _ (by unfold q_ov; rw [if_neg (hdead _ (fun k h => by cases h))]; rfl)) hS.2.2 hd hlocks
    · rename_i k
      split at hr
      · rename_i hk
        cases hr
        split at hok <;> (try simp only [Bool.and_eq_true, Bool.or_eq_true, beq_iff_eq, decide_eq_true_eq] at hok) <;> first | (exact absurd hok.1 (by decide)) | (exact absurd hok.1.2 (by decide)) | (exact absurd hok (by decide)) | skip
        · rcases hok.2 with ((⟨h1, -⟩ | ⟨h1, -⟩) | ⟨h1, -⟩) <;> cases h1
        · have e : q_rv G k = .ref (q_base G + k) := q_rvo hk
          have hrt : ∃ rt, q_mr j = some rt ∧ ((∃ n, rt = .object n) ∨ ∃ t, rt = .array t) := by
            have h3 := hok.2
            split at h3
            · exact ⟨_, ‹_›, Or.inl ⟨_, rfl⟩⟩
            · exact ⟨_, ‹_›, Or.inr ⟨_, rfl⟩⟩
            · cases h3
          obtain ⟨rt, h4, h5⟩ := hrt
          exact W.aret hx hb (hret.trans h4) h5 (Or.inr ⟨_, e⟩) (post _ (by unfold q_ov; rw [if_neg (hdead _ (fun k' h => by cases h; exact hk))]; rfl)) hS.2.2 hd hlocks
      · cases hr
    · rename_i x
      split at hr
      · rename_i hx4
        cases hr
        split at hok <;> (try simp only [Bool.and_eq_true, Bool.or_eq_true, beq_iff_eq, decide_eq_true_eq] at hok) <;> first | (exact absurd hok.1 (by decide)) | (exact absurd hok.1.2 (by decide)) | (exact absurd hok (by decide)) | skip
        rcases hok.2 with ((⟨h1, -⟩ | ⟨h1, -⟩) | ⟨-, h2⟩)
        · cases h1
        · cases h1
        · refine W.zret (ty := .char) hx hb (hret.trans h2) ?_ (post _ (by unfold q_ov; rw [if_neg (hdead _ (fun k h => by cases h))]; rfl)) hS.2.2 hd hlocks
          obtain ⟨n, rfl⟩ := Int.eq_ofNat_of_zero_le hx4.1
          exact q_char n (by omega)
      · cases hr
    · cases hr
  · split at hok <;> (try simp only [Bool.and_eq_true, Bool.or_eq_true, beq_iff_eq, decide_eq_true_eq] at hok) <;> first | (exact absurd hok.1 (by decide)) | (exact absurd hok.1.1 (by decide)) | (exact absurd hok (by decide)) | skip
    exact W.vret hx hb (hret.trans hok.2) (post _ (by unfold q_ov; rw [if_pos rfl])) hS.2.2 hd hlocks
end QS
theorem q_step_mono {i : q_I} {pc pc2 : Nat} {ls ls2 st st2 : List q_V} {S S2 : q_S} (h : q_step i pc ls st S = some (pc2, ls2, st2, S2)) : S.2.2.1.length ≤ S2.2.2.1.length ∧ S.2.2.2 ≤ S2.2.2.2 := by
  have hN : ∀ sh n, S.2.2.1.length ≤ (q_new S sh n).2.2.1.length ∧ S.2.2.2 ≤ (q_new S sh n).2.2.2 := fun sh n => ⟨by simp [q_new], by simp [q_new]⟩
  unfold q_step at h
  dsimp only at h
  split at h <;> (repeat' split at h) <;> first | (cases h; done) | (cases h; exact ⟨Nat.le_refl _, Nat.le_refl _⟩) | (cases h; exact hN _ _)
/-- every method's code begins at 0 -/
theorem q_bp0 : ∀ j, j < q_nm → q_bp j 0 = 0 := by decide +kernel
theorem q_MetofW {l : Launch} {y : MethodName} {ws ws' : List Jvm.Cond} {rm : Room} {Pc : Array Value → State → Prop} {Qc : Array Value → State → Outcome → State → Prop} {mc ms : Nat} {free : Addr → Prop} {cc : ByteArray} {maxL : Nat} {ret : Option FieldType}
    (hy : plainFor y = true) (hw : ws = Jvm.Cond.code y cc maxL ret :: ws')
    (body : ∀ p e s m args below meth c s₁, BodyLoose p l y (headSpec ws rm) cc maxL ret e s m args below meth c s₁ → c.maxLocals = maxL → Pc args s →
      W p l e (headSpec ws rm).room s m args below meth c s.heap [] 0 0 (MQ below Qc args s mc ms free) (entryFrame m args maxL)) : Met l y ws rm Pc Qc mc ms free := by
  refine MetFree.of_bodySF (code := cc) (maxLocals := maxL) (ret := ret) hy ?_ ?_
  · intro args s m h hn
    obtain ⟨meth, c, h1, h2, h3, h4, h5, h6, -, -⟩ := Cond.code_spec hn (atoms_spec (ws := ws) h _ (by rw [hw]; exact List.mem_cons_self))
    exact ⟨meth, c, h1, h2, h3, h4, h5, h6⟩
  · intro p e s m args below meth c s₁ B hml hP _
    have hh0 : s₁.heap = s.heap := by rw [B.state]; rfl
    obtain ⟨t, a1, o, b1, b2, b3⟩ := body p e s m args below meth c s₁ B hml hP s₁ hh0 (Stand.of_body B)
    exact ⟨t, o, a1, b1, b2, ⟨b3.1, b3.2⟩⟩
theorem q_plain {y : MethodName} (h : (plainName y.cls || (y.cls == "java/lang/Math" && q_mathd.contains y.desc)) = true) : plainFor y = true := by
  rw [Bool.or_eq_true] at h
  rcases h with h | h
  · exact plainFor_of_name h
  · rw [Bool.and_eq_true, beq_iff_eq] at h
    refine Jvm.Free.JP.mathPlain h.1 ?_
    have h2 := h.2
    simp only [q_mathd, List.contains_eq_mem, List.mem_cons, List.not_mem_nil, or_false, decide_eq_true_eq] at h2
    rcases h2 with e | e <;> rw [e] <;> decide +kernel
/-- THE SOUNDNESS OF THE ABSTRACT MACHINE -/
theorem q_sound {Ts : List Jvm.Cond} (hT : q_Tabs Ts) (hChk : q_Chk) (l : Launch) (G : q_G) : ∀ (n j pc : Nat) (ls st : List q_V) (S : q_S) (r : q_V) (S' : q_S), q_run q_P n j pc ls st S = some (r, S') → (S.2.2.1.length ≤ S'.2.2.1.length ∧ S.2.2.2 ≤ S'.2.2.2) ∧
    ∀ {p : Program} {e : Env} {R : Room} {s : State} {m : MethodId} {args : Array Value} {below : List Frame} {meth : Method} {c : Code} {H : Heap} {locs : List Loc} {ll : Array Slot} (n0 s0 : Nat), q_Cx Ts G p R s m args meth c j n0 → q_Ls G ls ll → ls.length = q_ml j → q_Rp G S H → va_S (q_A G) s.heap H locs → n0 ≤ S.2.2.1.length → s0 ≤ S.2.2.2 → (S'.2.2.1.length - n0 ≤ R.cells ∧ S'.2.2.2 - s0 ≤ R.slots) →
      W p l e R s m args below meth c H locs (S.2.2.1.length - n0) (S.2.2.2 - s0) (MQ below (q_Qc G r S') args s (S'.2.2.1.length - n0) (S'.2.2.2 - s0) (q_A G)) (F0 m (q_bp j pc) ll (st.map (q_cv G)))
  | 0, _, _, _, _, _, _, _, h => by simp [q_run] at h
  | n + 1, j, pc, ls, st, S, r, S', h => by
    unfold q_run at h
    cases hi : (q_P j).1[pc]? with
    | none => rw [hi] at h; cases h
    | some i =>
      rw [hi] at h
      dsimp only at h
      have hck := hChk j pc i hi
      obtain ⟨op, a, b, z, t⟩ := i
      by_cases h50 : op = 50
      · subst h50
        rw [if_pos rfl] at h
        obtain ⟨ins, len, hd, hok⟩ := q_ck_of hck (fun e => by cases e)
        simp only [q_okI, Bool.and_eq_true, beq_iff_eq] at hok
        cases hcall : q_call (50, a, b, z, t) ls st S with
        | none => rw [hcall] at h; cases h
        | some x =>
          obtain ⟨b', as, rs⟩ := x
          rw [hcall] at h
          dsimp only at h
          have hbb : b' = b := by
            unfold q_call at hcall
            simp only at hcall
            split at hcall
            · cases hcall; rfl
            · cases hcall
          subst hbb
          by_cases hlen : (q_P b').2 < (q_args as).length
          · rw [if_pos hlen] at h; cases h
          · rw [if_neg hlen] at h
            cases hrun : q_run q_P n b' 0 (q_pad (q_args as) (q_P b').2) [] S with
            | none => rw [hrun] at h; cases h
            | some y =>
              obtain ⟨v, S1⟩ := y
              rw [hrun] at h
              dsimp only at h
              have hbl : b' < q_nm := by
                have h1 := hok.2
                unfold q_kX at h1
                simp only [Bool.and_eq_true, decide_eq_true_eq] at h1
                exact h1.1.2
              obtain ⟨m1, W1⟩ := q_sound hT hChk l G n b' 0 _ [] S v S1 hrun
              obtain ⟨m2, W2⟩ := q_sound hT hChk l G n j (pc + 1) ls _ S1 r S' h
              refine ⟨⟨Nat.le_trans m1.1 m2.1, Nat.le_trans m1.2 m2.2⟩, ?_⟩
              intro p e R s m args below meth c H locs ll n0 s0 hC hL hll hR hS hn0 hs0 hbud
              obtain ⟨hx, hb, hml, hts, hown, hret, hlocks, hnm, hK, hn, hRf, hRl⟩ := hC
              have hmok := hT.1.2.2.2 b' hbl
              unfold q_mok at hmok
              rw [Bool.and_eq_true, Bool.and_eq_true, Bool.and_eq_true, Bool.and_eq_true, decide_eq_true_eq, decide_eq_true_eq, decide_eq_true_eq, decide_eq_true_eq] at hmok
              obtain ⟨⟨⟨⟨hh1, hh2⟩, hpl⟩, hPml⟩, hown2⟩ := hmok
              have hM : Met l (q_mn b') (q_wm Ts b') ({ frames := q_rf b', cells := S1.2.2.1.length - S.2.2.1.length, slots := S1.2.2.2 - S.2.2.2, locals := q_rl b' }) (q_Pc G as S) (q_Qc G v S1) (S1.2.2.1.length - S.2.2.1.length) (S1.2.2.2 - S.2.2.2) (q_A G) := by
                refine q_MetofW (cc := q_mb b') (maxL := q_ml b') (ret := q_mr b') (q_plain hpl) rfl ?_
                intro p1 e1 s1 mm args1 below1 meth1 c1 s₁ B hml1 hv
                obtain ⟨rfl, hRp1, hK1, hsz1⟩ := hv
                have hts1 := atoms_spec (ws := q_wm Ts b') B.pre
                have hown1 : s1.vm.findClass (q_mn b').cls = some mm.cls := findClass_of_methodNamed B.named
                have hnm1 : meth1.name = (q_mn b').name := (name_of_methodNamed B.named B.method).1
                have hG1 := hK1.2.2.2.2.2.2.2.2.2.2.2.2
                obtain ⟨hLs, hLl⟩ := q_entry (G := G) hG1 (as := as) (n := q_ml b') (by rw [← hPml]; omega)
                rw [lg_entry_eq]
                have hb0 : q_bp b' 0 = 0 := q_bp0 b' hbl
                have := W1 (p := p1) (e := e1) (R := (headSpec (q_wm Ts b') { frames := q_rf b', cells := S1.2.2.1.length - S.2.2.1.length, slots := S1.2.2.2 - S.2.2.2, locals := q_rl b' }).room) (s := s1) (m := mm) (below := below1) (meth := meth1) (c := c1) (H := s1.heap) (locs := []) S.2.2.1.length S.2.2.2 ⟨B.exec, B.bytes, hml1, fun w hw => hts1 w (List.mem_cons_of_mem _ hw), by rw [hown2]; exact hown1, B.returns, B.notSynchronized, hnm1, hK1, hsz1, Nat.le_refl _, Nat.le_refl _⟩ (by rw [hPml]; exact hLs) (by rw [hPml]; exact hLl) hRp1 va_S.rf (Nat.le_refl _) (Nat.le_refl _) ⟨Nat.le_refl _, Nat.le_refl _⟩
                rw [hb0, Nat.sub_self, Nat.sub_self] at this
                exact this
              have hcall' : q_call (50, a, b', z, t) [] st S = some (b', as, rs) := hcall
              refine q_oX hT.1 hx hb (by rw [hml, ← hll, hL.1]) hts hown hK hR hS hn rfl hn0 hRf hRl hcall' m1 (by omega) hM hd hok.2 hok.1 (fun H1 locs1 g1 g2 => ?_)
              have := W2 (p := p) (e := e) (R := R) (s := s) (m := m) (args := args) (below := below) (meth := meth) (c := c) (H := H1) (locs := locs1) (ll := ll) n0 s0 ⟨hx, hb, hml, hts, hown, hret, hlocks, hnm, hK, hn, hRf, hRl⟩ hL hll g1 g2 (by omega) (by omega) hbud
              rw [show S1.2.2.1.length - n0 = S.2.2.1.length - n0 + (S1.2.2.1.length - S.2.2.1.length) by omega, show S1.2.2.2 - s0 = S.2.2.2 - s0 + (S1.2.2.2 - S.2.2.2) by omega] at this
              exact this
      · rw [if_neg h50] at h
        by_cases h51 : op = 51
        · subst h51
          rw [if_pos rfl] at h
          obtain ⟨ins, len, hd, hok⟩ := q_ck_of hck (fun e => by cases e)
          simp only [q_okI] at hok
          obtain ⟨v, hv, e1⟩ := Option.map_eq_some_iff.mp h
          cases e1
          exact ⟨⟨Nat.le_refl _, Nat.le_refl _⟩, fun n0 s0 hC hL hll hR hS hn0 hs0 hbud => q_oR hC hd hok (Or.inl ⟨rfl, hv⟩) hR hS rfl hn0⟩
        · rw [if_neg h51] at h
          by_cases h52 : op = 52
          · subst h52
            rw [if_pos rfl] at h
            obtain ⟨ins, len, hd, hok⟩ := q_ck_of hck (fun e => by cases e)
            simp only [q_okI] at hok
            split at h
            · cases h
              exact ⟨⟨Nat.le_refl _, Nat.le_refl _⟩, fun n0 s0 hC hL hll hR hS hn0 hs0 hbud => q_oR hC hd hok (Or.inr ⟨rfl, rfl, rfl⟩) hR hS rfl hn0⟩
            · cases h
          · rw [if_neg h52] at h
            cases hst : q_step (op, a, b, z, t) pc ls st S with
            | none => rw [hst] at h; cases h
            | some x =>
              obtain ⟨pc2, ls2, st2, S2⟩ := x
              rw [hst] at h
              dsimp only at h
              have h99 : ¬ op = 99 := fun e => by subst e; simp [q_step] at hst
              obtain ⟨ins, len, hd, hok⟩ := q_ck_of hck h99
              obtain ⟨m2, W2⟩ := q_sound hT hChk l G n j pc2 ls2 st2 S2 r S' h
              have m1 := q_step_mono hst
              refine ⟨⟨Nat.le_trans m1.1 m2.1, Nat.le_trans m1.2 m2.2⟩, ?_⟩
              intro p e R s m args below meth c H locs ll n0 s0 hC hL hll hR hS hn0 hs0 hbud
              exact q_step_so hT hC hst hd hok hL hll hR hS hn0 hs0 (by omega) (fun H1 locs1 ll1 g0 g1 g2 g3 => W2 n0 s0 hC g0 g1 g2 g3 (by omega) (by omega) hbud)
