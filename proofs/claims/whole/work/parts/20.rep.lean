/-! WHAT A STATE OF THE ABSTRACT MACHINE MEANS: addresses, values, cells; what the launch's tables say (q_Kn); the locals. -/
abbrev q_G : Type := va_G × (Nat × Nat × Nat × Nat × Nat) × Value × (ClassId × ClassId × ClassId × ClassId × ClassId) × Nat × (Nat → Int32)
def q_base (G : q_G) : Nat := G.2.1.2.2.2.2
def q_gb (G : q_G) : Nat := G.2.1.1
def q_gp (G : q_G) : Nat := G.2.1.2.1
def q_gt (G : q_G) : Nat := G.2.1.2.2.1
def q_go (G : q_G) : Nat := G.2.1.2.2.2.1
def q_gv (G : q_G) : Value := G.2.2.1
def q_cI (G : q_G) : ClassId := G.2.2.2.1.1
def q_cJ (G : q_G) : ClassId := G.2.2.2.1.2.1
def q_cB (G : q_G) : ClassId := G.2.2.2.1.2.2.1
def q_cII (G : q_G) : ClassId := G.2.2.2.1.2.2.2.1
def q_cJJ (G : q_G) : ClassId := G.2.2.2.1.2.2.2.2
def q_L (G : q_G) : Nat := G.2.2.2.2.1
def q_xs (G : q_G) : Nat → Int32 := G.2.2.2.2.2
def q_A (G : q_G) : Nat → Prop := fun q => q_base G ≤ q
def q_ad (G : q_G) (k : Nat) : Nat := if k < 1000 then q_base G + k else if k = 1001 then q_gb G else if k = 1002 then q_gp G else if k = 1003 then q_gt G else q_go G
def q_ro (G : q_G) (k : Nat) : Option Nat := if k = 1000 then none else some (q_ad G k)
def q_rv (G : q_G) (k : Nat) : Value := if k = 1005 then q_gv G else va_rf (q_ro G k)
def q_cv (G : q_G) : q_V → Value
  | .inl z => .int (Int32.ofInt z)
  | .inr (.inl z) => .long (Int64.ofInt z)
  | .inr (.inr k) => q_rv G k
def q_gok (G : q_G) : Prop := q_gv G = .null ∨ ∃ t, q_gv G = .ref t
def q_isr (c k : Nat) : Bool := (q_rk.getD c []).getD k false
def q_nf (c : Nat) : Nat := match q_cls[c]? with
  | some q => q.2.2
  | none => 0
def q_fv (G : q_G) (S : q_S) (c k j : Nat) : Value := if q_isr c j = true then q_rv G (S.2.1 k j) else .int (Int32.ofInt (S.1 k j))
def q_ce (G : q_G) (S : q_S) (k : Nat) (sh : Nat × Nat) : va_E := match sh.1 with
  | 0 => .inl (q_cI G, sh.2, .inl (fun j => Int32.ofInt (S.1 k j)))
  | 1 => .inl (q_cJ G, sh.2, .inr (.inl (fun j => Int64.ofInt (S.1 k j))))
  | 2 => .inl (q_cB G, sh.2, .inl (fun j => Int32.ofInt (S.1 k j)))
  | 3 => .inl (q_cII G, sh.2, .inr (.inr (.inr (.inr (fun j => q_ro G (S.2.1 k j))))))
  | 4 => .inl (q_cJJ G, sh.2, .inr (.inr (.inr (.inr (fun j => q_ro G (S.2.1 k j))))))
  | c + 5 => .inr (c, (List.range (q_nf c)).map (q_fv G S c k))
def q_tys (G : q_G) : List (ClassId × FieldType) := [(q_cI G, .int), (q_cJ G, .long), (q_cB G, .byte), (q_cII G, .array .int), (q_cJJ G, .array .long)]
def q_ws (G : q_G) (S : q_S) : va_W := S.2.2.1.mapIdx (fun k sh => (q_base G + k, q_ce G S k sh))
theorem q_ws_get {G : q_G} {S : q_S} {k : Nat} : (q_ws G S)[k]? = (S.2.2.1[k]?).map (fun sh => (q_base G + k, q_ce G S k sh)) := by
  simp [q_ws, List.getElem?_mapIdx]
theorem q_ws_at {G : q_G} {S : q_S} {k : Nat} {sh : Nat × Nat} (h : S.2.2.1[k]? = some sh) : (q_ws G S)[k]? = some (q_base G + k, q_ce G S k sh) := by
  rw [q_ws_get, h]; rfl
theorem q_wsD {G : q_G} {S : q_S} : va_D (q_A G) (q_ws G S) := by
  refine ⟨fun i j p q h1 h2 e => ?_, fun k q h => ?_⟩
  · rw [q_ws_get] at h1 h2
    obtain ⟨x, -, rfl⟩ := Option.map_eq_some_iff.mp h1
    obtain ⟨y, -, rfl⟩ := Option.map_eq_some_iff.mp h2
    exact Nat.add_left_cancel e
  · rw [q_ws_get] at h
    obtain ⟨x, -, rfl⟩ := Option.map_eq_some_iff.mp h
    exact Nat.le_add_right _ _
/-- the tables that nobody writes: PRIMES, the digits -/
def q_pr (j : Nat) : Int := [5, 7, 11, 13, 17, 19, 23, 29, 31].getD j 0
def q_dt (j : Nat) : Int := 48 + (j / 10 : Nat)
def q_do (j : Nat) : Int := 48 + (j % 10 : Nat)
/-- what is read only -/
def q_Ro (G : q_G) (S : q_S) : Prop := (∀ j, j < q_L G → Int32.ofInt (S.1 1001 j) = q_xs G j) ∧ S.2.1 1001 0 = q_L G ∧ q_L G ≤ 65536 ∧ (∀ j, j < 9 → S.1 1002 j = q_pr j) ∧ (∀ j, j < 100 → S.1 1003 j = q_dt j) ∧ (∀ j, j < 100 → S.1 1004 j = q_do j)
def q_Rp (G : q_G) (S : q_S) (H : Heap) : Prop := va_P G.1 q_cls (q_ws G S) H ∧ S.2.2.1.length ≤ 1000 ∧ (∀ q ∈ S.2.2.1, q.2 ≤ 65536) ∧ q_Ro G S
/-- what the tables say of a state -/
def q_nest : List Cond := [.methodLinkNest "DoubleRootSums$Exponents" 30 ⟨"DoubleRootSums", "greatestDivisor", "(JJ)J"⟩ "DoubleRootSums", .methodLinkNest "DoubleRootSums$Terms" 128 ⟨"DoubleRootSums", "wholePower", "(JI)J"⟩ "DoubleRootSums", .methodLinkNest "DoubleRootSums$Matrix" 46 ⟨"DoubleRootSums", "rowNotZero", "([[IIII)I"⟩ "DoubleRootSums", .methodLinkNest "DoubleRootSums$Matrix" 50 ⟨"DoubleRootSums", "swapRows", "([[IIII)V"⟩ "DoubleRootSums", .methodLinkNest "DoubleRootSums$Form" 41 ⟨"DoubleRootSums", "rowNotZero", "([[IIII)I"⟩ "DoubleRootSums", .methodLinkNest "DoubleRootSums$Form" 45 ⟨"DoubleRootSums", "swapRows", "([[IIII)V"⟩ "DoubleRootSums"]
def q_nestF : Cond := .fieldLinkNest "DoubleRootSums$Stock" 39 "DoubleRootSums" "PRIMES" "[I" "DoubleRootSums"
/-- the statics: name, what is held -/
def q_sv (G : q_G) : List (String × String × String × Value) := [("java/lang/String", "COMPACT_STRINGS", "Z", .int 1), ("DoubleRootSums", "PRIMES", "[I", .ref (q_gp G)), ("jdk/internal/util/Preconditions", "SIOOBE_FORMATTER", "Ljava/util/function/BiFunction;", q_gv G), ("java/lang/Integer", "DigitTens", "[B", .ref (q_gt G)), ("java/lang/Integer", "DigitOnes", "[B", .ref (q_go G))]
def q_Kn (G : q_G) (U : State) : Prop :=
  va_K G.1 q_cls (q_tys G) U ∧ va_X (q_gb G) (q_L G) (q_xs G) U U.heap ∧ (∀ q ∈ q_sv G, va_Z q.1 q.2.1 q.2.2.1 q.2.2.2 (q_A G) U U.heap) ∧
  va_T .int (q_gp G) 9 (fun j => .int (Int32.ofInt (q_pr j))) (q_A G) U U.heap ∧ va_T .byte (q_gt G) 100 (fun j => .int (Int32.ofInt (q_dt j))) (q_A G) U U.heap ∧ va_T .byte (q_go G) 100 (fun j => .int (Int32.ofInt (q_do j))) (q_A G) U U.heap ∧
  (∀ w ∈ q_nest, va_Nw w U) ∧ va_Nw q_nestF U ∧ va_Nw (.arrayOver (.array .int)) U ∧ va_Nw (.arrayOver (.array .long)) U ∧ q_base G ≤ U.heap.size ∧ q_gb G < q_base G ∧ q_gok G
theorem q_over {t : FieldType} {u U : State} (hvm : u.vm.Alike U.vm) (h : va_Nw (.arrayOver (.array t)) u) : va_Nw (.arrayOver (.array t)) U := by
  obtain ⟨comp, c, k, h1, h2, h3, h4, h5⟩ : ∃ comp c k, u.vm.findClass (FieldType.array t).toString = some comp ∧ (u.vm.classes.findIdx? fun (x : Class) => match x.kind with | .array component _ => component == comp | _ => false) = some c ∧ u.vm.classes[c]? = some k ∧ k.kind = .array comp (.array t) ∧ u.vm.findClass ("[" ++ (FieldType.array t).toString) = some c := by
    unfold va_Nw Cond.before at h
    simp only [Cond.holds, Cond.value, beq_iff_eq] at h
    cases hc : u.vm.findClass (FieldType.array t).toString with
    | none => simp [hc] at h
    | some comp =>
      simp only [hc, Option.bind_some, Option.bind_eq_some_iff, Option.map_eq_some_iff] at h
      obtain ⟨c, hi, k, hk, hb⟩ := h
      obtain ⟨hlt, hp, -⟩ := Array.findIdx?_eq_some_iff_getElem.mp hi
      have hkk : u.vm.classes[c] = k := (Array.getElem?_eq_some_iff.mp hk).2
      rw [hkk] at hp
      cases hkind : k.kind with
      | array component ty =>
        rw [hkind] at hb hp
        simp at hb hp
        exact ⟨comp, c, k, rfl, hi, hk, by rw [hkind, hp, hb.1], hb.2⟩
      | _ => rw [hkind] at hb; simp at hb
  obtain ⟨k', hk', he⟩ := hvm.2.2 _ _ h3
  have e0 : u.vm.bare = U.vm.bare := by first | exact hvm.bare_eq | exact hvm.bare_eq.symm
  have hi : (U.vm.classes.findIdx? fun (x : Class) => match x.kind with | .array component _ => component == comp | _ => false) = some c := Eq.trans (va_idx_bare U.vm comp).symm (by rw [← e0]; exact (va_idx_bare u.vm comp).trans h2)
  have hkind : k'.kind = .array comp (.array t) := by rw [he]; exact h4
  have f1 : U.vm.findClass (FieldType.array t).toString = some comp := by rw [hvm.findClass]; exact h1
  have f2 : U.vm.findClass ("[" ++ (FieldType.array t).toString) = some c := by rw [hvm.findClass]; exact h5
  unfold va_Nw Cond.before Cond.holds
  simp only [Cond.value]
  rw [f1, Option.bind_some]
  refine (congrArg (fun o : Option Nat => (o.bind (fun c => (U.vm.classes[c]?).map fun (k : Class) => match k.kind with | .array _ ty => decide (ty = FieldType.array t) && decide (U.vm.findClass ("[" ++ (FieldType.array t).toString) = some c) | _ => false) == some true)) hi).trans ?_
  simp [hk', hkind, f2]
theorem q_Kn.go {G : q_G} {s U : State} (h : q_Kn G s) (hW : s.WarmedH U.vm) (hz : s.heap.size ≤ U.heap.size) (hk : ∀ q : Nat, q < s.heap.size → ¬ q_A G q → U.heap[q]? = s.heap[q]?) : q_Kn G U := by
  obtain ⟨h1, h2, h3, h4, h5, h6, h7, h8, h9, h10, h11, h12, h13⟩ := h
  have hb : q_gb G < s.heap.size := by omega
  have hX : va_X (q_gb G) (q_L G) (q_xs G) s U.heap := h2.kept (hk _ hb (by unfold q_A; omega))
  refine ⟨h1.moved hW.alike, hX.moved hW.alike, fun q hq => ((h3 q hq).kept hk).moved hW.alike, (h4.kept hk).moved hW.alike, (h5.kept hk).moved hW.alike, (h6.kept hk).moved hW.alike, fun w hw => ?_, va_Nw.warmF hW h8, q_over hW.alike h9, q_over hW.alike h10, by omega, h12, h13⟩
  have h := h7 w hw
  simp only [q_nest, List.mem_cons, List.not_mem_nil, or_false] at hw
  rcases hw with rfl | rfl | rfl | rfl | rfl | rfl <;> exact va_Nw.warmM hW h
/-- the locals -/
def q_Ls (G : q_G) (ls : List q_V) (l : Array Slot) : Prop := l.size = ls.length ∧ lv_wf l ∧ ∀ (i : Nat) (v : q_V), ls[i]? = some v → ¬ v = q_dead → l[i]? = some (.val (q_cv G v))
theorem q_Ls.at {G : q_G} {ls : List q_V} {l : Array Slot} (h : q_Ls G ls l) {i : Nat} {v : q_V} (hv : ls[i]? = some v) (hd : ¬ v = q_dead) : l[i]? = some (.val (q_cv G v)) := h.2.2 i v hv hd
/-- all that is held, as the kit's rows take it -/
def q_all (G : q_G) (ls : List q_V) : List (Nat × Value) := (ls.mapIdx (fun i v => (i, v))).filterMap (fun q => if q.2 = q_dead then none else some (q.1, q_cv G q.2))
theorem q_all_mem {G : q_G} {ls : List q_V} {q : Nat × Value} : q ∈ q_all G ls ↔ ∃ v, ls[q.1]? = some v ∧ ¬ v = q_dead ∧ q.2 = q_cv G v := by
  unfold q_all
  rw [List.mem_filterMap]
  constructor
  · rintro ⟨⟨i, v⟩, hm, h⟩
    obtain ⟨k, hk⟩ := List.getElem?_of_mem hm
    rw [List.getElem?_mapIdx] at hk
    obtain ⟨w, hw, e⟩ := Option.map_eq_some_iff.mp hk
    cases e
    by_cases hd : v = q_dead
    · simp [hd] at h
    · rw [if_neg hd] at h
      cases h
      exact ⟨v, hw, hd, rfl⟩
  · rintro ⟨v, hv, hd, e⟩
    refine ⟨(q.1, v), List.mem_of_getElem? (i := q.1) (by rw [List.getElem?_mapIdx, hv]; rfl), ?_⟩
    simp [hd, ← e]
theorem q_Ls.has {G : q_G} {ls : List q_V} {l : Array Slot} (h : q_Ls G ls l) : lv_has l ls.length (q_all G ls) := by
  refine ⟨h.1, h.2.1, fun q hq => ?_⟩
  obtain ⟨v, hv, hd, e⟩ := q_all_mem.mp hq
  rw [e]
  exact h.2.2 _ _ hv hd
theorem q_cat1 {G : q_G} (hG : q_gok G) : ∀ (v : q_V), q_cat v = (q_cv G v).category
  | .inl _ => rfl
  | .inr (.inl _) => rfl
  | .inr (.inr k) => by
    show 1 = (q_rv G k).category
    unfold q_rv
    split
    · rcases hG with h | ⟨t, h⟩ <;> rw [h] <;> rfl
    · cases q_ro G k <;> rfl
theorem q_cut_len {ls : List q_V} {i : Nat} : (q_cut ls i).length = ls.length := by
  unfold q_cut
  split
  · rfl
  · split <;> simp
theorem q_cut_get {ls : List q_V} {i j : Nat} {v : q_V} (h : (q_cut ls i)[j]? = some v) (hd : ¬ v = q_dead) : ls[j]? = some v ∧ ¬ (j + 1 = i ∧ q_cat v = 2) := by
  unfold q_cut at h
  split at h
  · exact ⟨h, by omega⟩
  · rename_i k
    split at h
    · rename_i z hz
      by_cases hj : j = k
      · subst hj
        rw [List.getElem?_set_self (List.getElem?_eq_some_iff.mp hz).1] at h
        exact absurd (Option.some.inj h).symm hd
      · rw [List.getElem?_set_ne (fun e => hj e.symm)] at h
        exact ⟨h, fun e => hj (by omega)⟩
    · rename_i hn
      refine ⟨h, fun e => ?_⟩
      obtain ⟨e1, e2⟩ := e
      have : j = k := by omega
      subst this
      match v, e2, h with
      | .inr (.inl z), _, h => exact hn z h
theorem q_Ls.set1 {G : q_G} (hG : q_gok G) {ls : List q_V} {i : Nat} {v : q_V} {l' : Array Slot} {w : Value} (hw : w = q_cv G v) (h : lv_has l' ls.length ((i, w) :: (q_all G ls).filter (fun q => !(q.1 == i) && !(q.1 + 1 == i && q.2.category == 2)))) : q_Ls G (q_set1 ls i v) l' := by
  subst hw
  refine ⟨by rw [h.1]; simp [q_set1, q_cut_len], h.2.1, fun j x hx hd => ?_⟩
  unfold q_set1 at hx
  by_cases hj : j = i
  · subst hj
    by_cases hl : j < (q_cut ls j).length
    · rw [List.getElem?_set_self hl] at hx
      cases hx
      exact h.2.2 _ List.mem_cons_self
    · rw [List.getElem?_eq_none (by simpa using hl)] at hx
      cases hx
  · rw [List.getElem?_set_ne (fun e => hj e.symm)] at hx
    obtain ⟨h1, h2⟩ := q_cut_get hx hd
    refine h.2.2 (j, q_cv G x) (List.mem_cons_of_mem _ (List.mem_filter.mpr ⟨q_all_mem.mpr ⟨x, h1, hd, rfl⟩, ?_⟩))
    rw [q_cat1 hG] at h2
    simp only [Bool.and_eq_true, Bool.not_eq_true', beq_eq_false_iff_ne, ne_eq, Bool.and_eq_false_iff]
    refine ⟨hj, ?_⟩
    by_cases e : j + 1 = i
    · exact Or.inr fun q => h2 ⟨e, q⟩
    · exact Or.inl e
theorem q_Ls.set2 {G : q_G} (hG : q_gok G) {ls : List q_V} {i : Nat} {v : q_V} {l' : Array Slot} {w : Value} (hw : w = q_cv G v) (h : lv_has l' ls.length ((i, w) :: (q_all G ls).filter (fun q => !(q.1 == i) && (!(q.1 == i + 1) && !(q.1 + 1 == i && q.2.category == 2))))) : q_Ls G (q_set2 ls i v) l' := by
  subst hw
  refine ⟨by rw [h.1]; simp [q_set2, q_cut_len], h.2.1, fun j x hx hd => ?_⟩
  unfold q_set2 at hx
  by_cases hj1 : j = i + 1
  · subst hj1
    by_cases hl : i + 1 < ((q_cut ls i).set i v).length
    · rw [List.getElem?_set_self hl] at hx
      exact absurd (Option.some.inj hx).symm hd
    · rw [List.getElem?_eq_none (by simpa using hl)] at hx
      cases hx
  · rw [List.getElem?_set_ne (fun e => hj1 e.symm)] at hx
    by_cases hj : j = i
    · subst hj
      by_cases hl : j < (q_cut ls j).length
      · rw [List.getElem?_set_self hl] at hx
        cases hx
        exact h.2.2 _ List.mem_cons_self
      · rw [List.getElem?_eq_none (by simpa using hl)] at hx
        cases hx
    · rw [List.getElem?_set_ne (fun e => hj e.symm)] at hx
      obtain ⟨h1, h2⟩ := q_cut_get hx hd
      refine h.2.2 (j, q_cv G x) (List.mem_cons_of_mem _ (List.mem_filter.mpr ⟨q_all_mem.mpr ⟨x, h1, hd, rfl⟩, ?_⟩))
      rw [q_cat1 hG] at h2
      simp only [Bool.and_eq_true, Bool.not_eq_true', beq_eq_false_iff_ne, ne_eq, Bool.and_eq_false_iff]
      refine ⟨hj, hj1, ?_⟩
      by_cases e : j + 1 = i
      · exact Or.inr fun q => h2 ⟨e, q⟩
      · exact Or.inl e
