/-! THE LAW'S START: what the Statement gives of it, in the abstract machine's words -/
theorem q_hTs {s : State} {b : Nat} (hts : ∀ w ∈ lw_tbl, w.before #[Value.ref b] s = true) : ∀ w ∈ q_Ts, w.before #[Value.ref b] s = true := by
  intro w hw
  rcases List.mem_append.mp hw with h | h
  · obtain ⟨j, hj, rfl⟩ := List.mem_map.mp h
    have h1 : Jvm.Cond.privateMethod (q_mn j) ∈ lw_tbl := List.mem_append_right _ (q_sub_map q_w_k4p hj)
    have hjl : q_jl.contains j = true := by
      have : q_k4p.all (fun j => q_jl.contains j) = true := by decide +kernel
      exact List.all_eq_true.mp this j hj
    have h2 : Jvm.Cond.instanceMethod (q_mn j) ∈ lw_tbl := List.mem_append_right _ (q_sub_map q_w_jl (List.contains_iff_mem.mp hjl))
    have hsel : Jvm.Cond.selects (q_clq 0).1 (q_mn 161) (q_mn 161) ∈ lw_tbl := List.mem_append_right _ (q_sub_map q_w_k4 (by decide +kernel))
    have hcls : (q_mn j).cls = (q_mn 161).cls ∧ ((q_mn j).cls ≠ "java/lang/invoke/MethodHandle" ∧ (q_mn j).cls ≠ "java/lang/invoke/VarHandle") := by
      have : q_k4p.all (fun j => decide ((q_mn j).cls = (q_mn 161).cls ∧ ((q_mn j).cls ≠ "java/lang/invoke/MethodHandle" ∧ (q_mn j).cls ≠ "java/lang/invoke/VarHandle"))) = true := by decide +kernel
      exact of_decide_eq_true (List.all_eq_true.mp this j hj)
    have g1 := hts _ h1
    have g2 := hts _ h2
    have g3 := hts _ hsel
    obtain ⟨mk, methM, hnamed, hmethM, -, -⟩ := Cond.instanceMethod_spec g2
    have hfound : s.methodFound? (q_mn j).cls (q_mn j).name (q_mn j).desc = some mk := State.methodFound?_of_named hnamed hcls.2
    have hc2 : s.vm.findClass (q_mn j).cls = some mk.cls := findClass_of_methodNamed hnamed
    simp only [Cond.before, Cond.holds, Cond.value] at g3 ⊢
    cases hc : s.vm.findClass (q_clq 0).1 with
    | none => simp [hc] at g3
    | some c =>
      cases hr : s.methodFound? (q_mn 161).cls (q_mn 161).name (q_mn 161).desc with
      | none => simp [hc, hr] at g3
      | some r =>
        cases hm : s.methodNamed? (q_mn 161) with
        | none => simp [hc, hr, hm] at g3
        | some m0 =>
          have hc3 : s.vm.findClass (q_mn 161).cls = some m0.cls := findClass_of_methodNamed hm
          rw [← hcls.1, hc2] at hc3
          have hmc : mk.cls = m0.cls := Option.some.inj hc3
          have hsel2 : selectMethod {} s.vm c mk = .method mk := selectMethod_private hmethM (Cond.privateMethod_at g1 mk methM hnamed hmethM)
          simp only [hc, hr, hm] at g3
          simp only [hc, hfound, hnamed, hsel2]
          cases hs : selectMethod {} s.vm c r with
          | method m' =>
            simp only [hs] at g3
            simp only [beq_iff_eq, Option.some.injEq, Bool.and_eq_true, decide_eq_true_eq] at g3 ⊢
            exact ⟨trivial, by rw [hmc]; exact g3.2⟩
          | _ => simp [hs] at g3
  · exact hts w (List.mem_filter.mp h).1
theorem q_arr {s : State} {b : Nat} {ty : FieldType} (h : (Jvm.Cond.arrayClass ty).before #[Value.ref b] s = true) : ∃ c : ClassId, ArrOfT s c ty ∧ s.vm.findClass ("[" ++ ty.toString) = some c := by
  obtain ⟨c, k, comp, h1, h2, h3⟩ := Cond.arrayClass_spec h
  exact ⟨c, fun n z => ⟨fun k h => (by cases h), k, h2, comp, h3⟩, h1⟩
theorem q_arr2 {s : State} {b : Nat} {ty : FieldType} (h : (Jvm.Cond.arrayOver (.array ty)).before #[Value.ref b] s = true) : ∃ c : ClassId, ArrOfT s c (.array ty) ∧ s.vm.findClass ("[" ++ (FieldType.array ty).toString) = some c := by
  obtain ⟨comp, c, k, h1, h2, h3, h4⟩ := Cond.arrayOver_specA h
  exact ⟨c, fun n z => ⟨fun k h => (by cases h), k, h2, comp, h3⟩, h4⟩
def q_elems (C n d : String) (N : Nat) (f : Nat → Int) : List Jvm.Cond := (List.range N).map (fun j => Jvm.Cond.eq (.elem (.static C n d) (.int (Int32.ofNat j))) (.int (Int32.ofInt (f j))))
def q_gn : List Jvm.Cond := flatC (Jvm.Cond.and given_1 narrow_1)
theorem q_e_pr : (q_elems "DoubleRootSums" "PRIMES" "[I" 9 q_pr).isSublist q_gn = true := by decide +kernel
theorem q_e_dt : (q_elems "java/lang/Integer" "DigitTens" "[B" 100 q_dt).isSublist q_gn = true := by decide +kernel
theorem q_e_do : (q_elems "java/lang/Integer" "DigitOnes" "[B" 100 q_do).isSublist q_gn = true := by decide +kernel
theorem q_tab {s : State} {b : Nat} {A : Nat → Prop} {C n d : String} {ty : FieldType} {N : Nat} {f : Nat → Int} (hN : N < 2 ^ 31) (hgn : ∀ w ∈ q_gn, w.before #[Value.ref b] s = true) (hts : ∀ w ∈ lw_tbl, w.before #[Value.ref b] s = true) (h1 : Jvm.Cond.laysStatic C n d ∈ lw_tbl) (h2 : Jvm.Cond.initialized C ∈ lw_tbl) (h3 : Jvm.Cond.arrayOf (.static C n d) ty ∈ q_gn) (h4 : Jvm.Cond.eq (.length (.static C n d)) (.int (Int32.ofNat N)) ∈ q_gn) (h5 : (q_elems C n d N f).isSublist q_gn = true) (hA : ∀ a : Nat, a < s.heap.size → ¬ A a) : ∃ t : Nat, va_Z C n d (.ref t) A s s.heap ∧ va_T ty t N (fun j => .int (Int32.ofInt (f j))) A s s.heap := by
  obtain ⟨t, ht, hT⟩ := va_Tof (f := fun j => .int (Int32.ofInt (f j))) hN (hgn _ h3) (va_eqt (hgn _ h4)) (fun j hj => va_eqt (hgn _ (q_subm h5 (List.mem_map.mpr ⟨j, List.mem_range.mpr hj, rfl⟩)))) hA
  exact ⟨t, va_Zof (hts _ h1) (hts _ h2) ht hA, hT⟩
theorem q_start {p : Program} {s : State} {m : MethodId} {meth : Method} {c : Code} {b L : Nat} {xs : Nat → Int32} (C0 : lw_At p s m meth c b L xs) : ∃ G : q_G, q_base G = s.heap.size ∧ q_gb G = b ∧ q_L G = L ∧ q_xs G = xs ∧ q_Kn G s := by
  obtain ⟨hx, hb, hr, hml, hown, hts, hX, hbl, hlocks, hgv, hnm⟩ := C0
  have hT := q_hTs hts
  have hgn : ∀ w ∈ q_gn, w.before #[Value.ref b] s = true := flat_of_before _ hgv
  have hcl : ∀ c : Nat, ∃ D : ClassId × (Nat → Nat), ∀ q, q_cls[c]? = some q → u_Kn s q.1 q.2.1 q.2.2 D.1 D.2 := by
    intro c
    cases hq : q_cls[c]? with
    | none => exact ⟨(0, fun _ => 0), fun q h => by cases h⟩
    | some q =>
      have hc : c < 14 := by have := (List.getElem?_eq_some_iff.mp hq).1; rw [q_cls_len] at this; exact this
      have e := q_clq_at hc
      rw [hq] at e
      cases e
      obtain ⟨cC, iS, h⟩ := u_known hT (q_lay_ok c _ hq) (hT _ (q_bw_ok c hc _ (by unfold q_bw; exact List.mem_cons_self)))
      exact ⟨(cC, iS), fun q h2 => by cases h2; exact h⟩
  obtain ⟨D, hD⟩ := Classical.axiomOfChoice hcl
  have hac : ∀ ty ∈ [FieldType.int, .byte, .long], (Jvm.Cond.arrayClass ty).before #[Value.ref b] s = true := fun ty hty => hT _ (q_inTs (q_sub_map (List.all_eq_true.mp q_w_ac ty hty) List.mem_cons_self) rfl)
  obtain ⟨cI, i1, i2⟩ := q_arr (hac .int (by simp))
  obtain ⟨cJ, j1, j2⟩ := q_arr (hac .long (by simp))
  obtain ⟨cB, b1, b2⟩ := q_arr (hac .byte (by simp))
  have ho1 := hts (.arrayOver (.array .int)) (by decide +kernel)
  have ho2 := hts (.arrayOver (.array .long)) (by decide +kernel)
  obtain ⟨cII, k1, k2⟩ := q_arr2 ho1
  obtain ⟨cJJ, l1, l2⟩ := q_arr2 ho2
  have hA : ∀ a : Nat, a < s.heap.size → ¬ s.heap.size ≤ a := fun a h => by omega
  obtain ⟨gp, z1, t1⟩ := q_tab (A := fun q => s.heap.size ≤ q) (C := "DoubleRootSums") (n := "PRIMES") (d := "[I") (ty := .int) (N := 9) (f := q_pr) (by decide) hgn hts (by decide +kernel) (by decide +kernel) (by decide +kernel) (by decide +kernel) q_e_pr hA
  obtain ⟨gt, z2, t2⟩ := q_tab (A := fun q => s.heap.size ≤ q) (C := "java/lang/Integer") (n := "DigitTens") (d := "[B") (ty := .byte) (N := 100) (f := q_dt) (by decide) hgn hts (by decide +kernel) (by decide +kernel) (by decide +kernel) (by decide +kernel) q_e_dt hA
  obtain ⟨go, z3, t3⟩ := q_tab (A := fun q => s.heap.size ≤ q) (C := "java/lang/Integer") (n := "DigitOnes") (d := "[B") (ty := .byte) (N := 100) (f := q_do) (by decide) hgn hts (by decide +kernel) (by decide +kernel) (by decide +kernel) (by decide +kernel) q_e_do hA
  have z4 : va_Z "java/lang/String" "COMPACT_STRINGS" "Z" (.int 1) (fun q => s.heap.size ≤ q) s s.heap := va_Zof (hts _ (by decide +kernel)) (hts _ (by decide +kernel)) (va_eqi (hgn _ (by decide +kernel))) hA
  have z5 : ∃ v : Value, (v = .null ∨ ∃ t, v = .ref t) ∧ va_Z "jdk/internal/util/Preconditions" "SIOOBE_FORMATTER" "Ljava/util/function/BiFunction;" v (fun q => s.heap.size ≤ q) s s.heap := by
    rcases va_Zqof (hts (.laysStatic "jdk/internal/util/Preconditions" "SIOOBE_FORMATTER" "Ljava/util/function/BiFunction;") (by decide +kernel)) (hts _ (by decide +kernel)) (hgn _ (by decide +kernel)) hA with h | ⟨t, h⟩
    · exact ⟨_, Or.inl rfl, h⟩
    · exact ⟨_, Or.inr ⟨t, rfl⟩, h⟩
  obtain ⟨gv, hgv2, z5⟩ := z5
  refine ⟨((fun c => (D c).1, fun c => (D c).2), (b, gp, gt, go, s.heap.size), gv, (cI, cJ, cB, cII, cJJ), L, xs), rfl, rfl, rfl, rfl, ⟨fun c q hq => hD c q hq, fun k q hq => ?_⟩, hX, fun q hq => ?_, t1, t2, t3, fun w hw => ?_, ?_, ho1, ho2, Nat.le_refl _, hbl, hgv2⟩
  · match k, hq with
    | 0, hq => cases hq; exact ⟨i1, i2⟩
    | 1, hq => cases hq; exact ⟨j1, j2⟩
    | 2, hq => cases hq; exact ⟨b1, b2⟩
    | 3, hq => cases hq; exact ⟨k1, k2⟩
    | 4, hq => cases hq; exact ⟨l1, l2⟩
    | k + 5, hq => simp [q_tys] at hq
  · simp only [q_sv, List.mem_cons, List.not_mem_nil, or_false] at hq
    rcases hq with rfl | rfl | rfl | rfl | rfl
    · exact z4
    · exact z1
    · exact z5
    · exact z2
    · exact z3
  · have hm : q_nest.all (fun w => decide (w ∈ lw_tbl)) = true := by decide +kernel
    have h := hts w (of_decide_eq_true (List.all_eq_true.mp hm w hw))
    refine va_Nw.of ?_ h
    simp only [q_nest, List.mem_cons, List.not_mem_nil, or_false] at hw
    rcases hw with rfl | rfl | rfl | rfl | rfl | rfl <;> rfl
  · exact va_Nw.of rfl (hts _ (by decide +kernel))
