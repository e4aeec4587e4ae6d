/-! THE ABSTRACT MACHINE: values are whole numbers (ints and longs, not wrapped) and places of cells; the heap is two functions (numbers, places) and a list of shapes; one step, and a run with fuel. Its soundness stands in part 30. -/
def q_w (z : Int) : Int := (Int32.ofInt z).toInt
def q_wl (z : Int) : Int := (Int64.ofInt z).toInt
def q_bin (a : Nat) (x y : Int) : Int := match a with
  | 0 => x + y
  | 1 => x - y
  | 2 => x * y
  | 3 => (Int32.ofInt x &&& Int32.ofInt y).toInt
  | 4 => (Int32.ofInt x ||| Int32.ofInt y).toInt
  | 5 => (Int32.ofInt x ^^^ Int32.ofInt y).toInt
  | 6 => (Int32.ofInt x <<< (Int32.ofInt y &&& 31)).toInt
  | 7 => (Int32.ofInt x >>> (Int32.ofInt y &&& 31)).toInt
  | 8 => ((Int32.ofInt x).toUInt32 >>> ((Int32.ofInt y).toUInt32 &&& Int32.toUInt32 31)).toInt32.toInt
  | 9 => (Int32.ofInt x / Int32.ofInt y).toInt
  | _ => (Int32.ofInt x - Int32.ofInt x / Int32.ofInt y * Int32.ofInt y).toInt
def q_lbin (a : Nat) (x y : Int) : Int := match a with
  | 0 => x + y
  | 1 => x - y
  | 2 => x * y
  | 3 => (Int64.ofInt x &&& Int64.ofInt y).toInt
  | 4 => (Int64.ofInt x ||| Int64.ofInt y).toInt
  | 5 => (Int64.ofInt x ^^^ Int64.ofInt y).toInt
  | 9 => (Int64.ofInt x / Int64.ofInt y).toInt
  | _ => (Int64.ofInt x - Int64.ofInt x / Int64.ofInt y * Int64.ofInt y).toInt
def q_lshl (x y : Int) : Int := (Int64.ofInt x <<< ((Int32.ofInt y).toInt64 &&& 63)).toInt
def q_i2b (x : Int) : Int := (Int32.ofInt x).toInt8.toInt32.toInt
def q_i2c (x : Int) : Int := ((Int32.ofInt x).toUInt32 % 65536).toInt32.toInt
def q_cond (c : Nat) (x y : Int) : Bool := match c with
  | 0 => decide (x = y)
  | 1 => decide (¬ x = y)
  | 2 => decide (x < y)
  | 3 => decide (¬ x < y)
  | 4 => decide (y < x)
  | _ => decide (¬ y < x)
def q_upd {α : Type} (m : Nat → Nat → α) (a i : Nat) (v : α) : Nat → Nat → α := fun b j => if b = a ∧ j = i then v else m b j
/-- from place n on all is new -/
def q_zero {α : Type} (m : Nat → Nat → α) (n : Nat) (v : α) : Nat → Nat → α := fun b j => if n ≤ b ∧ b < 1000 then v else m b j
def q_row (r : Nat → Nat → Nat) (n k : Nat) : Nat → Nat → Nat := fun b j => if b = n ∧ j < k then n + 1 + j else r b j
def q_cpy (m : Nat → Nat → Int) (a i b j n : Nat) : Nat → Nat → Int := fun c k => if c = b ∧ j ≤ k ∧ k < j + n then m a (i + (k - j)) else m c k
/-- a cell's shape: kind (0 ints, 1 longs, 2 bytes, 3 rows of ints, 4 rows of longs, 5 and on: objects), length; what the law's own argument and the tables are: 1001 .. 1004 -/
def q_shp (S : q_S) (o : Nat) : Option (Nat × Nat) := if o < 1000 then S.2.2.1[o]? else if o = 1001 then some (0, S.2.1 1001 0) else if o = 1002 then some (0, 9) else if o = 1003 then some (2, 100) else if o = 1004 then some (2, 100) else none
def q_mem (S : q_S) (m : Nat → Nat → Int) : q_S := (m, S.2)
def q_dead : q_V := .inr (.inr 1009)
def q_cat : q_V → Nat
  | .inr (.inl _) => 2
  | _ => 1
/-- a long's place and the one behind it; a value of one slot ends a long that it cuts -/
def q_cut (ls : List q_V) (i : Nat) : List q_V := match i with
  | 0 => ls
  | k + 1 => match ls[k]? with
    | some (.inr (.inl _)) => ls.set k q_dead
    | _ => ls
def q_set1 (ls : List q_V) (i : Nat) (v : q_V) : List q_V := (q_cut ls i).set i v
def q_set2 (ls : List q_V) (i : Nat) (v : q_V) : List q_V := ((q_cut ls i).set i v).set (i + 1) q_dead
def q_sw (z : Int) (x : Int) : List Nat → Nat → Nat
  | [], d => d
  | t :: r, d => if x = z then t else q_sw (z + 1) x r d
def q_lk (x : Int) : List Nat → Nat → Nat
  | k :: t :: r, d => if x = (k : Int) then t else q_lk x r d
  | _, d => d
def q_new (S : q_S) (sh : List (Nat × Nat)) (n : Nat) : q_S := (q_zero S.1 S.2.2.1.length 0, q_zero S.2.1 S.2.2.1.length 1000, S.2.2.1 ++ sh, S.2.2.2 + n)
def q_ok1 (k : Nat) : Bool := decide (k < 1000) || decide (k = 1001)
abbrev q_C : Type := Nat × List q_V × List q_V × q_S
def q_step (i : q_I) (pc : Nat) (ls st : List q_V) (S : q_S) : Option q_C := match i with
  | (op, a, b, z, t) => match op with
    | 0 => match ls[a]? with
      | some (.inl x) => some (pc + 1, ls, .inl x :: st, S)
      | _ => none
    | 1 => match ls[a]? with
      | some (.inr (.inl x)) => some (pc + 1, ls, .inr (.inl x) :: st, S)
      | _ => none
    | 2 => match ls[a]? with
      | some (.inr (.inr k)) => if q_ok1 k = true then some (pc + 1, ls, .inr (.inr k) :: st, S) else none
      | _ => none
    | 3 => match st with
      | .inl x :: r => if a < ls.length then some (pc + 1, q_set1 ls a (.inl x), r, S) else none
      | _ => none
    | 4 => match st with
      | .inr (.inl x) :: r => if a + 1 < ls.length then some (pc + 1, q_set2 ls a (.inr (.inl x)), r, S) else none
      | _ => none
    | 5 => match st with
      | .inr (.inr k) :: r => if a < ls.length ∧ q_ok1 k = true then some (pc + 1, q_set1 ls a (.inr (.inr k)), r, S) else none
      | _ => none
    | 6 => some (pc + 1, ls, .inl z :: st, S)
    | 7 => some (pc + 1, ls, .inr (.inl z) :: st, S)
    | 8 => match st with
      | .inl y :: .inl x :: r => if (a = 9 ∨ a = 10) ∧ q_w y = 0 then none else some (pc + 1, ls, .inl (q_bin a x y) :: r, S)
      | _ => none
    | 9 => match st with
      | .inl x :: r => some (pc + 1, ls, .inl (-x) :: r, S)
      | _ => none
    | 10 => match st with
      | .inr (.inl y) :: .inr (.inl x) :: r => if (a = 9 ∨ a = 10) ∧ q_wl y = 0 then none else some (pc + 1, ls, .inr (.inl (q_lbin a x y)) :: r, S)
      | _ => none
    | 11 => match st with
      | .inl y :: .inr (.inl x) :: r => some (pc + 1, ls, .inr (.inl (q_lshl x y)) :: r, S)
      | _ => none
    | 12 => match st with
      | .inr (.inl y) :: .inr (.inl x) :: r => some (pc + 1, ls, .inl (if q_wl x < q_wl y then -1 else if q_wl x = q_wl y then 0 else 1) :: r, S)
      | _ => none
    | 13 => match st with
      | .inl x :: r => some (pc + 1, ls, .inr (.inl (q_w x)) :: r, S)
      | _ => none
    | 14 => match st with
      | .inr (.inl x) :: r => some (pc + 1, ls, .inl x :: r, S)
      | _ => none
    | 15 => match st with
      | .inl x :: r => some (pc + 1, ls, .inl (q_i2b x) :: r, S)
      | _ => none
    | 16 => match st with
      | .inl x :: r => some (pc + 1, ls, .inl (q_i2c x) :: r, S)
      | _ => none
    | 17 => match st with
      | .inl x :: r => some (if q_cond a (q_w x) 0 = true then b else pc + 1, ls, r, S)
      | _ => none
    | 18 => match st with
      | .inl y :: .inl x :: r => some (if q_cond a (q_w x) (q_w y) = true then b else pc + 1, ls, r, S)
      | _ => none
    | 19 => some (b, ls, st, S)
    | 20 => match ls[a]? with
      | some (.inl x) => some (pc + 1, q_set1 ls a (.inl (x + z)), st, S)
      | _ => none
    | 21 => match st with
      | .inl x :: r => some (pc + 1, ls, .inl x :: .inl x :: r, S)
      | .inr (.inr k) :: r => some (pc + 1, ls, .inr (.inr k) :: .inr (.inr k) :: r, S)
      | _ => none
    | 22 => match st with
      | .inl _ :: r => some (pc + 1, ls, r, S)
      | .inr (.inr _) :: r => some (pc + 1, ls, r, S)
      | _ => none
    | 23 => match st with
      | .inl x :: .inr (.inr k) :: r => some (pc + 1, ls, .inl x :: .inr (.inr k) :: .inl x :: r, S)
      | _ => none
    | 24 => match st with
      | .inr (.inr o) :: r => if o < 1000 ∧ (S.2.2.1[o]?).map Prod.fst = some (b + 5) then some (pc + 1, ls, .inl (S.1 o a) :: r, S) else none
      | _ => none
    | 25 => match st with
      | .inr (.inr o) :: r => if o < 1000 ∧ (S.2.2.1[o]?).map Prod.fst = some (b + 5) then some (pc + 1, ls, .inr (.inr (S.2.1 o a)) :: r, S) else none
      | _ => none
    | 26 => match st with
      | .inl x :: .inr (.inr o) :: r => if o < 1000 ∧ (S.2.2.1[o]?).map Prod.fst = some (b + 5) ∧ (z = 1 → x = 0 ∨ x = 1) ∧ (z = 2 → -128 ≤ x ∧ x < 128) then some (pc + 1, ls, r, (q_upd S.1 o a x, S.2)) else none
      | _ => none
    | 27 => match st with
      | .inr (.inr k) :: .inr (.inr o) :: r => if o < 1000 ∧ k < 1000 ∧ (S.2.2.1[o]?).map Prod.fst = some (b + 5) then some (pc + 1, ls, r, (S.1, q_upd S.2.1 o a k, S.2.2)) else none
      | _ => none
    | 28 => match st with
      | .inl i :: .inr (.inr o) :: r => match q_shp S o with
        | some (k, n) => if k = b ∧ 0 ≤ i ∧ i < n then some (pc + 1, ls, .inl (S.1 o i.toNat) :: r, S) else none
        | none => none
      | _ => none
    | 29 => match st with
      | .inl x :: .inl i :: .inr (.inr o) :: r => match S.2.2.1[o]? with
        | some (k, n) => if o < 1000 ∧ k = b ∧ 0 ≤ i ∧ i < n then some (pc + 1, ls, r, (q_upd S.1 o i.toNat (if b = 2 then q_i2b x else x), S.2)) else none
        | none => none
      | _ => none
    | 30 => match st with
      | .inl i :: .inr (.inr o) :: r => match S.2.2.1[o]? with
        | some (k, n) => if o < 1000 ∧ k = 1 ∧ 0 ≤ i ∧ i < n then some (pc + 1, ls, .inr (.inl (S.1 o i.toNat)) :: r, S) else none
        | none => none
      | _ => none
    | 31 => match st with
      | .inr (.inl x) :: .inl i :: .inr (.inr o) :: r => match S.2.2.1[o]? with
        | some (k, n) => if o < 1000 ∧ k = 1 ∧ 0 ≤ i ∧ i < n then some (pc + 1, ls, r, (q_upd S.1 o i.toNat x, S.2)) else none
        | none => none
      | _ => none
    | 32 => match st with
      | .inl i :: .inr (.inr o) :: r => match S.2.2.1[o]? with
        | some (k, n) => if o < 1000 ∧ k = b ∧ (b = 3 ∨ b = 4) ∧ 0 ≤ i ∧ i < n ∧ S.2.1 o i.toNat < 1000 then some (pc + 1, ls, .inr (.inr (S.2.1 o i.toNat)) :: r, S) else none
        | none => none
      | _ => none
    | 33 => match st with
      | .inr (.inr o) :: r => match q_shp S o with
        | some (k, n) => if k < 5 then some (pc + 1, ls, .inl n :: r, S) else none
        | none => none
      | _ => none
    | 34 => some (pc + 1, ls, (if a = 0 then .inl z else .inr (.inr b)) :: st, S)
    | 35 => if S.2.2.1.length < 900 then some (pc + 1, ls, .inr (.inr S.2.2.1.length) :: st, q_new S [(b + 5, a)] a) else none
    | 36 => match st with
      | .inl n :: r => if S.2.2.1.length < 900 ∧ 0 ≤ n ∧ n < 65536 then some (pc + 1, ls, .inr (.inr S.2.2.1.length) :: r, q_new S [(b, n.toNat)] n.toNat) else none
      | _ => none
    | 37 => match st with
      | .inl k :: .inl n :: r => if S.2.2.1.length < 900 ∧ 0 ≤ n ∧ n < 50 ∧ 0 ≤ k ∧ k < 65536 then
          some (pc + 1, ls, .inr (.inr S.2.2.1.length) :: r, ((q_new S ((b, n.toNat) :: List.replicate n.toNat (b - 3, k.toNat)) (n.toNat + n.toNat * k.toNat)).1, q_row (q_new S ((b, n.toNat) :: List.replicate n.toNat (b - 3, k.toNat)) (n.toNat + n.toNat * k.toNat)).2.1 S.2.2.1.length n.toNat, (q_new S ((b, n.toNat) :: List.replicate n.toNat (b - 3, k.toNat)) (n.toNat + n.toNat * k.toNat)).2.2)) else none
      | _ => none
    | 38 => match st with
      | .inl x :: r => some (q_sw z (q_w x) t b, ls, r, S)
      | _ => none
    | 39 => match st with
      | .inl x :: r => some (q_lk (q_w x) t b, ls, r, S)
      | _ => none
    | 40 => match st with
      | .inr (.inr o) :: r => if o < 1000 ∧ (r.map q_cat).sum ≤ 8 then some (pc + 1, ls, r, S) else none
      | _ => none
    | 41 => match st with
      | .inl n :: .inl j :: .inr (.inr q) :: .inl i :: .inr (.inr p) :: r => match S.2.2.1[p]?, S.2.2.1[q]? with
        | some (k0, n0), some (k1, n1) => if p < 1000 ∧ q < 1000 ∧ (r.map q_cat).sum ≤ 8 ∧ k0 < 3 ∧ k0 = k1 ∧ 0 ≤ n ∧ 0 ≤ i ∧ 0 ≤ j ∧ i + n ≤ n0 ∧ j + n ≤ n1 ∧ (k0 = 2 → (List.range n.toNat).all (fun x => decide (-128 ≤ S.1 p (i.toNat + x) ∧ S.1 p (i.toNat + x) < 128)) = true) then
            some (pc + 1, ls, r, (q_cpy S.1 p i.toNat q j.toNat n.toNat, S.2)) else none
        | _, _ => none
      | _ => none
    | _ => none
/-- the arguments in the slots of a callee -/
def q_args : List q_V → List q_V
  | [] => []
  | .inr (.inl x) :: r => .inr (.inl x) :: q_dead :: q_args r
  | v :: r => v :: q_args r
def q_pad (l : List q_V) (n : Nat) : List q_V := l ++ List.replicate (n - l.length) q_dead
/-- a call: how many arguments a (this one's too), callee b, kind z, t = [kind of the receiver] -/
def q_rcv (t : List Nat) (args : List q_V) (S : q_S) : Bool := match t with
  | [] => true
  | c :: _ => match args with
    | .inr (.inr o) :: _ => decide (o < 1000) && decide ((S.2.2.1[o]?).map Prod.fst = some (c + 5))
    | _ => false
def q_call (i : q_I) (ls st : List q_V) (S : q_S) : Option (Nat × List q_V × List q_V) := match i with
  | (_, a, b, _, t) => if a ≤ st.length ∧ ((st.drop a).map q_cat).sum ≤ 8 ∧ q_rcv t ((st.take a).reverse) S = true ∧ ∀ v ∈ st.take a, ¬ v = q_dead then some (b, (st.take a).reverse, st.drop a) else none
def q_push (v : q_V) (r : List q_V) : List q_V := if v = q_dead then r else v :: r
/-- 51: a value comes back (a: 0 int, 1 boolean, 2 long, 3 a cell, 4 char), 52: none -/
def q_ret (i : q_I) (st : List q_V) : Option q_V := match i with
  | (_, a, _, _, _) => match a, st with
    | 0, [.inl x] => some (.inl x)
    | 1, [.inl x] => if x = 0 ∨ x = 1 then some (.inl x) else none
    | 2, [.inr (.inl x)] => some (.inr (.inl x))
    | 3, [.inr (.inr k)] => if k < 1000 then some (.inr (.inr k)) else none
    | 4, [.inl x] => if 0 ≤ x ∧ x < 256 then some (.inl x) else none
    | _, _ => none
def q_run (P : Nat → q_M) : Nat → Nat → Nat → List q_V → List q_V → q_S → Option (q_V × q_S)
  | 0, _, _, _, _, _ => none
  | n + 1, j, pc, ls, st, S => match (P j).1[pc]? with
    | none => none
    | some i => if i.1 = 50 then
        match q_call i ls st S with
        | none => none
        | some (b, as, r) => if (P b).2 < (q_args as).length then none else match q_run P n b 0 (q_pad (q_args as) (P b).2) [] S with
          | none => none
          | some (v, S') => q_run P n j (pc + 1) ls (q_push v r) S'
      else if i.1 = 51 then (q_ret i st).map (fun v => (v, S))
      else if i.1 = 52 then (match st with
        | [] => some (q_dead, S)
        | _ => none)
      else match q_step i pc ls st S with
        | none => none
        | some (pc', ls', st', S') => q_run P n j pc' ls' st' S'
