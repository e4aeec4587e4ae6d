/-! q_k..: what a program checks of an instruction and its bytes. -/
def q_mt (j : Nat) : MethodName × ByteArray × Nat × Option FieldType := q_ms.getD j (⟨"", "", ""⟩, ByteArray.empty, 0, none)
def q_mn (j : Nat) : MethodName := (q_mt j).1
def q_mb (j : Nat) : ByteArray := (q_mt j).2.1
def q_ml (j : Nat) : Nat := (q_mt j).2.2.1
def q_mr (j : Nat) : Option FieldType := (q_mt j).2.2.2
def q_ow (o : Nat) : String := q_owns.getD o ""
def q_oi (j : Nat) : Nat := q_ois.getD j 0
def q_bp (j pc : Nat) : Nat := (q_bs.getD j []).getD pc 0
def q_clq (c : Nat) : vw_C := q_cls.getD c ("", q_T_0, 0)
def q_fw (e : Nat × Nat × Nat × Nat) : Cond := .fieldLink (q_ow e.1) e.2.1 ((q_clq e.2.2.1).2.1 e.2.2.2).1 ((q_clq e.2.2.1).2.1 e.2.2.2).2.1 ((q_clq e.2.2.1).2.1 e.2.2.2).2.2.1
def q_kw (e : Nat × Nat × Int) : Cond := .constant (q_ow e.1) e.2.1 (Int32.ofInt e.2.2)
def q_kwl (e : Nat × Nat × Int) : Cond := .constantLong (q_ow e.1) e.2.1 (Int64.ofInt e.2.2)
def q_k0 (a : Nat) (ins : Instr) (len : Nat) : Bool := match ins with
  | .iload_n k => k.val == a && len == 1
  | .iload k => k == a && len == 2
  | _ => false
def q_k1 (a : Nat) (ins : Instr) (len : Nat) : Bool := match ins with
  | .lload_n k => k.val == a && len == 1
  | .lload k => k == a && len == 2
  | _ => false
def q_k2 (a : Nat) (ins : Instr) (len : Nat) : Bool := match ins with
  | .aload_n k => k.val == a && len == 1
  | .aload k => k == a && len == 2
  | _ => false
def q_k3 (a : Nat) (ins : Instr) (len : Nat) : Bool := match ins with
  | .istore_n k => k.val == a && len == 1
  | .istore k => k == a && len == 2
  | _ => false
def q_k4 (a : Nat) (ins : Instr) (len : Nat) : Bool := match ins with
  | .lstore_n k => k.val == a && len == 1
  | .lstore k => k == a && len == 2
  | _ => false
def q_k5 (a : Nat) (ins : Instr) (len : Nat) : Bool := match ins with
  | .astore_n k => k.val == a && len == 1
  | .astore k => k == a && len == 2
  | _ => false
def q_k6 (o : Nat) (z : Int) (t : List Nat) (ins : Instr) (len : Nat) : Bool := match ins with
  | .iconst n => n == z && len == 1
  | .bipush n => (Int8.ofInt n).toInt32 == Int32.ofInt z && len == 2
  | .sipush n => (Int16.ofInt n).toInt32 == Int32.ofInt z && len == 3
  | .ldc n => (match t with | k :: _ => q_kt[k]? == some (o, n, z) | [] => false) && len == 2
  | .ldc_w n => (match t with | k :: _ => q_kt[k]? == some (o, n, z) | [] => false) && len == 3
  | _ => false
def q_k7 (o : Nat) (z : Int) (t : List Nat) (ins : Instr) (len : Nat) : Bool := match ins with
  | .lconst n => ((n.val : Nat) : Int) == z && len == 1
  | .ldc2_w n => (match t with | k :: _ => q_ku[k]? == some (o, n, z) | [] => false) && len == 3
  | _ => false
def q_k8 (a : Nat) (ins : Instr) (len : Nat) : Bool := len == 1 && (match ins with
  | .iadd => a == 0
  | .isub => a == 1
  | .imul => a == 2
  | .iand => a == 3
  | .ior => a == 4
  | .ixor => a == 5
  | .ishl => a == 6
  | .ishr => a == 7
  | .iushr => a == 8
  | .idiv => a == 9
  | .irem => a == 10
  | _ => false)
def q_k10 (a : Nat) (ins : Instr) (len : Nat) : Bool := len == 1 && (match ins with
  | .ladd => a == 0
  | .lsub => a == 1
  | .lmul => a == 2
  | .land => a == 3
  | .lor => a == 4
  | .lxor => a == 5
  | .ldiv => a == 9
  | .lrem => a == 10
  | _ => false)
def q_kS (op : Nat) (ins : Instr) (len : Nat) : Bool := len == 1 && (match ins with
  | .ineg => op == 9
  | .lshl => op == 11
  | .lcmp => op == 12
  | .i2l => op == 13
  | .l2i => op == 14
  | .i2b => op == 15
  | .i2c => op == 16
  | .dup => op == 21
  | .pop => op == 22
  | .dup_x1 => op == 23
  | _ => false)
def q_kc (c : Jvm.ClassFile.Cond) : Nat := match c with
  | .eq => 0
  | .ne => 1
  | .lt => 2
  | .ge => 3
  | .gt => 4
  | .le => 5
/-- a jump from b by off is to t -/
def q_jmp (b : Nat) (off : Int) (t : Nat) : Bool := decide ((b : Int) + off = (t : Int))
def q_kB (op a b : Nat) (bp : Nat → Nat) (pc : Nat) (ins : Instr) (len : Nat) : Bool := match ins with
  | .ifCond c off => op == 17 && q_kc c == a && len == 3 && q_jmp (bp pc) off (bp b)
  | .if_icmp c off => op == 18 && q_kc c == a && len == 3 && q_jmp (bp pc) off (bp b)
  | .goto off => op == 19 && len == 3 && q_jmp (bp pc) off (bp b)
  | _ => false
def q_k20 (a : Nat) (z : Int) (ins : Instr) (len : Nat) : Bool := match ins with
  | .iinc k n => k == a && n == z && len == 3
  | _ => false
def q_swk (bp : Nat → Nat) (pc : Nat) : List Int → List Nat → Bool
  | [], [] => true
  | o :: r, t :: u => q_jmp (bp pc) o (bp t) && q_swk bp pc r u
  | _, _ => false
def q_lkk (bp : Nat → Nat) (pc : Nat) : List (Int × Int) → List Nat → Bool
  | [], [] => true
  | (k, o) :: r, m :: t :: u => decide (k = (m : Int)) && q_jmp (bp pc) o (bp t) && q_lkk bp pc r u
  | _, _ => false
def q_kW (op b : Nat) (z : Int) (t : List Nat) (bp : Nat → Nat) (pc : Nat) (ins : Instr) (_len : Nat) : Bool := match ins with
  | .tableswitch d lo hi offs => op == 38 && lo == z && decide (hi = lo + t.length - 1) && q_jmp (bp pc) d (bp b) && q_swk bp pc offs.toList t
  | .lookupswitch d ps => op == 39 && q_jmp (bp pc) d (bp b) && q_lkk bp pc ps.toList t && (ps.toList.zip (ps.toList.drop 1)).all (fun (a, next) => decide (a.1 < next.1))
  | _ => false
def q_kR (op a : Nat) (r : Option FieldType) (ins : Instr) (len : Nat) : Bool := len == 1 && (match ins with
  | .ireturn => op == 51 && ((a == 0 && decide (r = some .int)) || (a == 1 && decide (r = some .boolean)) || (a == 4 && decide (r = some .char)))
  | .lreturn => op == 51 && a == 2 && decide (r = some .long)
  | .areturn => op == 51 && a == 3 && (match r with | some (.object _) => true | some (.array _) => true | _ => false)
  | .return_ => op == 52 && decide (r = none)
  | _ => false)
