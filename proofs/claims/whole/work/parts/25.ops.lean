/-! SOUNDNESS, ONE: instructions that touch no heap. q_ck: what a program checks of an instruction and its bytes. -/
def q_mt (j : Nat) : MethodName × ByteArray × Nat × Option FieldType := q_ms.getD j (⟨"", "", ""⟩, ByteArray.empty, 0, none)
def q_mn (j : Nat) : MethodName := (q_mt j).1
def q_mb (j : Nat) : ByteArray := (q_mt j).2.1
def q_ml (j : Nat) : Nat := (q_mt j).2.2.1
def q_mr (j : Nat) : Option FieldType := (q_mt j).2.2.2
def q_ow (o : Nat) : String := q_owns.getD o ""
def q_oi (j : Nat) : Nat := q_ois.getD j 0
def q_bp (j pc : Nat) : Nat := (q_bs.getD j []).getD pc 0
def q_clq (c : Nat) : vw_C := q_cls.getD c ("", q_T_0, 0)
def q_fw (e : Nat × Nat × Nat × Nat) : Cond := .fieldLink (q_ow e.1) e.2.1 ((q_clq e.2.2.1).2.1 e.2.2.2).1 ((q_clq e.2.2.1).2.1 e.2.2.2).2.1 ((q_clq e.2.2.1).2.1 e.2.2.2).2.2.1
def q_kw (e : Nat × Nat × Int) : Cond := .constant (q_ow e.1) e.2.1 (Int32.ofInt e.2.2)
def q_kwl (e : Nat × Nat × Int) : Cond := .constantLong (q_ow e.1) e.2.1 (Int64.ofInt e.2.2)
def q_k0 (a : Nat) (ins : Instr) (len : Nat) : Bool := match ins with
  | .iload_n k => k.val == a && len == 1
  | .iload k => k == a && len == 2
  | _ => false
def q_k1 (a : Nat) (ins : Instr) (len : Nat) : Bool := match ins with
  | .lload_n k => k.val == a && len == 1
  | .lload k => k == a && len == 2
  | _ => false
def q_k2 (a : Nat) (ins : Instr) (len : Nat) : Bool := match ins with
  | .aload_n k => k.val == a && len == 1
  | .aload k => k == a && len == 2
  | _ => false
def q_k3 (a : Nat) (ins : Instr) (len : Nat) : Bool := match ins with
  | .istore_n k => k.val == a && len == 1
  | .istore k => k == a && len == 2
  | _ => false
def q_k4 (a : Nat) (ins : Instr) (len : Nat) : Bool := match ins with
  | .lstore_n k => k.val == a && len == 1
  | .lstore k => k == a && len == 2
  | _ => false
def q_k5 (a : Nat) (ins : Instr) (len : Nat) : Bool := match ins with
  | .astore_n k => k.val == a && len == 1
  | .astore k => k == a && len == 2
  | _ => false
def q_k6 (o : Nat) (z : Int) (t : List Nat) (ins : Instr) (len : Nat) : Bool := match ins with
  | .iconst n => n == z && len == 1
  | .bipush n => (Int8.ofInt n).toInt32 == Int32.ofInt z && len == 2
  | .sipush n => (Int16.ofInt n).toInt32 == Int32.ofInt z && len == 3
  | .ldc n => (match t with | k :: _ => q_kt[k]? == some (o, n, z) | [] => false) && len == 2
  | .ldc_w n => (match t with | k :: _ => q_kt[k]? == some (o, n, z) | [] => false) && len == 3
  | _ => false
def q_k7 (o : Nat) (z : Int) (t : List Nat) (ins : Instr) (len : Nat) : Bool := match ins with
  | .lconst n => ((n.val : Nat) : Int) == z && len == 1
  | .ldc2_w n => (match t with | k :: _ => q_ku[k]? == some (o, n, z) | [] => false) && len == 3
  | _ => false
def q_k8 (a : Nat) (ins : Instr) (len : Nat) : Bool := len == 1 && (match ins with
  | .iadd => a == 0
  | .isub => a == 1
  | .imul => a == 2
  | .iand => a == 3
  | .ior => a == 4
  | .ixor => a == 5
  | .ishl => a == 6
  | .ishr => a == 7
  | .iushr => a == 8
  | .idiv => a == 9
  | .irem => a == 10
  | _ => false)
def q_k10 (a : Nat) (ins : Instr) (len : Nat) : Bool := len == 1 && (match ins with
  | .ladd => a == 0
  | .lsub => a == 1
  | .lmul => a == 2
  | .land => a == 3
  | .lor => a == 4
  | .lxor => a == 5
  | .ldiv => a == 9
  | .lrem => a == 10
  | _ => false)
def q_kS (op : Nat) (ins : Instr) (len : Nat) : Bool := len == 1 && (match ins with
  | .ineg => op == 9
  | .lshl => op == 11
  | .lcmp => op == 12
  | .i2l => op == 13
  | .l2i => op == 14
  | .i2b => op == 15
  | .i2c => op == 16
  | .dup => op == 21
  | .pop => op == 22
  | .dup_x1 => op == 23
  | _ => false)
def q_kc (c : Jvm.ClassFile.Cond) : Nat := match c with
  | .eq => 0
  | .ne => 1
  | .lt => 2
  | .ge => 3
  | .gt => 4
  | .le => 5
/-- a jump from b by off is to t -/
def q_jmp (b : Nat) (off : Int) (t : Nat) : Bool := decide ((b : Int) + off = (t : Int))
def q_kB (op a b : Nat) (bp : Nat → Nat) (pc : Nat) (ins : Instr) (len : Nat) : Bool := match ins with
  | .ifCond c off => op == 17 && q_kc c == a && len == 3 && q_jmp (bp pc) off (bp b)
  | .if_icmp c off => op == 18 && q_kc c == a && len == 3 && q_jmp (bp pc) off (bp b)
  | .goto off => op == 19 && len == 3 && q_jmp (bp pc) off (bp b)
  | _ => false
def q_k20 (a : Nat) (z : Int) (ins : Instr) (len : Nat) : Bool := match ins with
  | .iinc k n => k == a && n == z && len == 3
  | _ => false
def q_swk (bp : Nat → Nat) (pc : Nat) : List Int → List Nat → Bool
  | [], [] => true
  | o :: r, t :: u => q_jmp (bp pc) o (bp t) && q_swk bp pc r u
  | _, _ => false
def q_lkk (bp : Nat → Nat) (pc : Nat) : List (Int × Int) → List Nat → Bool
  | [], [] => true
  | (k, o) :: r, m :: t :: u => decide (k = (m : Int)) && q_jmp (bp pc) o (bp t) && q_lkk bp pc r u
  | _, _ => false
def q_kW (op b : Nat) (z : Int) (t : List Nat) (bp : Nat → Nat) (pc : Nat) (ins : Instr) (_len : Nat) : Bool := match ins with
  | .tableswitch d lo hi offs => op == 38 && lo == z && decide (hi = lo + t.length - 1) && q_jmp (bp pc) d (bp b) && q_swk bp pc offs.toList t
  | .lookupswitch d ps => op == 39 && q_jmp (bp pc) d (bp b) && q_lkk bp pc ps.toList t && (ps.toList.zip (ps.toList.drop 1)).all (fun (a, next) => decide (a.1 < next.1))
  | _ => false
def q_kR (op a : Nat) (r : Option FieldType) (ins : Instr) (len : Nat) : Bool := len == 1 && (match ins with
  | .ireturn => op == 51 && ((a == 0 && decide (r = some .int)) || (a == 1 && decide (r = some .boolean)) || (a == 4 && decide (r = some .char)))
  | .lreturn => op == 51 && a == 2 && decide (r = some .long)
  | .areturn => op == 51 && a == 3 && (match r with | some (.object _) => true | some (.array _) => true | _ => false)
  | .return_ => op == 52 && decide (r = none)
  | _ => false)
section QO
variable {p : Program} {l : Launch} {e : Env} {R : Room} {s : State} {m : MethodId} {args : Array Value} {below : List Frame} {meth : Method} {c : Code} {H : Heap} {locs : List Loc} {cells slots : Nat} {Q : State → Prop}
variable {cc : ByteArray} {bp bq : Nat} {ll : Array Slot} {G : q_G} {ls : List q_V} {st : List q_V} {ins : Instr} {len : Nat}
theorem q_o0 (hx : p.tables.exec = Jvm.exec) (hb : c.code = cc) (hL : q_Ls G ls ll) {a : Nat} {x : Int} (hv : ls[a]? = some (.inl x)) (hd : decode cc bp = .ok (ins, len)) (hk : q_k0 a ins len = true) (hq : bq = bp + len) {rest : List Value}
    (kk : W p l e R s m args below meth c H locs cells slots Q (F0 m bq ll (.int (Int32.ofInt x) :: rest))) : W p l e R s m args below meth c H locs cells slots Q (F0 m bp ll rest) := by
  have h1 := hL.at hv (by unfold q_dead; simp)
  subst hq
  unfold q_k0 at hk
  split at hk <;> simp only [Bool.and_eq_true, beq_iff_eq, Bool.false_eq_true] at hk
  · obtain ⟨e1, rfl⟩ := hk
    exact lv_iload_n hx hb hd e1 h1 kk
  · obtain ⟨rfl, rfl⟩ := hk
    exact lv_iload hx hb hd h1 kk
theorem q_o1 (hx : p.tables.exec = Jvm.exec) (hb : c.code = cc) (hL : q_Ls G ls ll) {a : Nat} {x : Int} (hv : ls[a]? = some (.inr (.inl x))) (hd : decode cc bp = .ok (ins, len)) (hk : q_k1 a ins len = true) (hq : bq = bp + len) {rest : List Value}
    (kk : W p l e R s m args below meth c H locs cells slots Q (F0 m bq ll (.long (Int64.ofInt x) :: rest))) : W p l e R s m args below meth c H locs cells slots Q (F0 m bp ll rest) := by
  have h1 := hL.at hv (by unfold q_dead; simp)
  subst hq
  unfold q_k1 at hk
  split at hk <;> simp only [Bool.and_eq_true, beq_iff_eq, Bool.false_eq_true] at hk
  · obtain ⟨e1, rfl⟩ := hk
    exact lv_lload_n hx hb hd e1 h1 kk
  · obtain ⟨rfl, rfl⟩ := hk
    exact lv_lload hx hb hd h1 kk
theorem q_rv_ok {k : Nat} (h : q_ok1 k = true) : q_rv G k = .ref (q_ad G k) := by
  unfold q_ok1 at h
  simp only [Bool.or_eq_true, decide_eq_true_eq] at h
  unfold q_rv q_ro
  rw [if_neg (by omega), if_neg (by omega)]
  rfl
theorem q_o2 (hx : p.tables.exec = Jvm.exec) (hb : c.code = cc) (hL : q_Ls G ls ll) {a k : Nat} (hv : ls[a]? = some (.inr (.inr k))) (ho : q_ok1 k = true) (hd : decode cc bp = .ok (ins, len)) (hk : q_k2 a ins len = true) (hq : bq = bp + len) {rest : List Value}
    (kk : W p l e R s m args below meth c H locs cells slots Q (F0 m bq ll (q_rv G k :: rest))) : W p l e R s m args below meth c H locs cells slots Q (F0 m bp ll rest) := by
  have h1 := hL.at hv (by unfold q_dead; unfold q_ok1 at ho; simp only [Bool.or_eq_true, decide_eq_true_eq] at ho; simp; omega)
  have h2 : q_cv G (.inr (.inr k)) = .ref (q_ad G k) := q_rv_ok ho
  rw [h2] at h1
  rw [q_rv_ok ho] at kk
  subst hq
  unfold q_k2 at hk
  split at hk <;> simp only [Bool.and_eq_true, beq_iff_eq, Bool.false_eq_true] at hk
  · obtain ⟨e1, rfl⟩ := hk
    exact lv_aload_n hx hb hd e1 h1 kk
  · obtain ⟨rfl, rfl⟩ := hk
    exact lv_aload hx hb hd h1 kk
theorem q_o3 (hG : q_gok G) (hx : p.tables.exec = Jvm.exec) (hb : c.code = cc) (hL : q_Ls G ls ll) {a : Nat} {x : Int} (ha : a < ls.length) (hd : decode cc bp = .ok (ins, len)) (hk : q_k3 a ins len = true) (hq : bq = bp + len) {rest : List Value}
    (kk : ∀ ll' : Array Slot, q_Ls G (q_set1 ls a (.inl x)) ll' → W p l e R s m args below meth c H locs cells slots Q (F0 m bq ll' rest)) : W p l e R s m args below meth c H locs cells slots Q (F0 m bp ll (.int (Int32.ofInt x) :: rest)) := by
  subst hq
  unfold q_k3 at hk
  split at hk <;> simp only [Bool.and_eq_true, beq_iff_eq, Bool.false_eq_true] at hk
  · obtain ⟨e1, rfl⟩ := hk
    exact lv_istore_n hx hb hd e1 hL.has ha rfl (fun l' h => kk l' (q_Ls.set1 hG rfl h))
  · obtain ⟨rfl, rfl⟩ := hk
    exact lv_istore hx hb hd hL.has ha rfl (fun l' h => kk l' (q_Ls.set1 hG rfl h))
theorem q_o4 (hG : q_gok G) (hx : p.tables.exec = Jvm.exec) (hb : c.code = cc) (hL : q_Ls G ls ll) {a : Nat} {x : Int} (ha : a + 1 < ls.length) (hd : decode cc bp = .ok (ins, len)) (hk : q_k4 a ins len = true) (hq : bq = bp + len) {rest : List Value}
    (kk : ∀ ll' : Array Slot, q_Ls G (q_set2 ls a (.inr (.inl x))) ll' → W p l e R s m args below meth c H locs cells slots Q (F0 m bq ll' rest)) : W p l e R s m args below meth c H locs cells slots Q (F0 m bp ll (.long (Int64.ofInt x) :: rest)) := by
  subst hq
  unfold q_k4 at hk
  split at hk <;> simp only [Bool.and_eq_true, beq_iff_eq, Bool.false_eq_true] at hk
  · obtain ⟨e1, rfl⟩ := hk
    exact lv_lstore_n hx hb hd e1 hL.has ha rfl (fun l' h => kk l' (q_Ls.set2 hG rfl h))
  · obtain ⟨rfl, rfl⟩ := hk
    exact lv_lstore hx hb hd hL.has ha rfl (fun l' h => kk l' (q_Ls.set2 hG rfl h))
theorem q_o5 (hG : q_gok G) (hx : p.tables.exec = Jvm.exec) (hb : c.code = cc) (hL : q_Ls G ls ll) {a k : Nat} (ha : a < ls.length) (ho : q_ok1 k = true) (hd : decode cc bp = .ok (ins, len)) (hk : q_k5 a ins len = true) (hq : bq = bp + len) {rest : List Value}
    (kk : ∀ ll' : Array Slot, q_Ls G (q_set1 ls a (.inr (.inr k))) ll' → W p l e R s m args below meth c H locs cells slots Q (F0 m bq ll' rest)) : W p l e R s m args below meth c H locs cells slots Q (F0 m bp ll (q_rv G k :: rest)) := by
  have h2 : Value.ref (q_ad G k) = q_cv G (.inr (.inr k)) := (q_rv_ok ho).symm
  rw [q_rv_ok ho]
  subst hq
  unfold q_k5 at hk
  split at hk <;> simp only [Bool.and_eq_true, beq_iff_eq, Bool.false_eq_true] at hk
  · obtain ⟨e1, rfl⟩ := hk
    exact lv_astore_n hx hb hd e1 hL.has ha rfl (fun l' h => kk l' (q_Ls.set1 hG h2 h))
  · obtain ⟨rfl, rfl⟩ := hk
    exact lv_astore hx hb hd hL.has ha rfl (fun l' h => kk l' (q_Ls.set1 hG h2 h))
theorem q_o6 (hx : p.tables.exec = Jvm.exec) (hb : c.code = cc) {o : Nat} {z : Int} {t : List Nat} (hown : s.vm.findClass (q_ow o) = some m.cls) (hw : ∀ q ∈ q_kt, (q_kw q).before args s = true) (hd : decode cc bp = .ok (ins, len)) (hk : q_k6 o z t ins len = true) (hq : bq = bp + len) {rest : List Value}
    (kk : W p l e R s m args below meth c H locs cells slots Q (F0 m bq ll (.int (Int32.ofInt z) :: rest))) : W p l e R s m args below meth c H locs cells slots Q (F0 m bp ll rest) := by
  subst hq
  unfold q_k6 at hk
  split at hk
  · simp only [Bool.and_eq_true, beq_iff_eq] at hk
    obtain ⟨rfl, rfl⟩ := hk
    exact lv_iconst hx hb hd rfl kk
  · simp only [Bool.and_eq_true, beq_iff_eq] at hk
    obtain ⟨e1, rfl⟩ := hk
    exact lv_bipush hx hb hd e1 kk
  · simp only [Bool.and_eq_true, beq_iff_eq] at hk
    obtain ⟨e1, rfl⟩ := hk
    exact lv_sipush hx hb hd e1 kk
  · cases t with
    | nil => simp at hk
    | cons k t =>
      simp only [Bool.and_eq_true, beq_iff_eq] at hk
      obtain ⟨e1, rfl⟩ := hk
      exact lv_ldc hx hb hown (hw _ (List.mem_of_getElem? e1)) hd kk
  · cases t with
    | nil => simp at hk
    | cons k t =>
      simp only [Bool.and_eq_true, beq_iff_eq] at hk
      obtain ⟨e1, rfl⟩ := hk
      exact lv_ldcw hx hb hown (hw _ (List.mem_of_getElem? e1)) hd kk
  · cases hk
theorem q_o7 (hx : p.tables.exec = Jvm.exec) (hb : c.code = cc) {o : Nat} {z : Int} {t : List Nat} (hown : s.vm.findClass (q_ow o) = some m.cls) (hw : ∀ q ∈ q_ku, (q_kwl q).before args s = true) (hd : decode cc bp = .ok (ins, len)) (hk : q_k7 o z t ins len = true) (hq : bq = bp + len) {rest : List Value}
    (kk : W p l e R s m args below meth c H locs cells slots Q (F0 m bq ll (.long (Int64.ofInt z) :: rest))) : W p l e R s m args below meth c H locs cells slots Q (F0 m bp ll rest) := by
  subst hq
  unfold q_k7 at hk
  split at hk
  · simp only [Bool.and_eq_true, beq_iff_eq] at hk
    obtain ⟨rfl, rfl⟩ := hk
    exact lv_lconst hx hb hd (by first | rfl | simp [Int64.ofInt_eq_ofNat]) kk
  · cases t with
    | nil => simp at hk
    | cons k t =>
      simp only [Bool.and_eq_true, beq_iff_eq] at hk
      obtain ⟨e1, rfl⟩ := hk
      exact lv_ldc2 hx hb hown (hw _ (List.mem_of_getElem? e1)) hd kk
  · cases hk
end QO
