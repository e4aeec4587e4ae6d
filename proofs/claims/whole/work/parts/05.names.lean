/-! NAMES: the classes whose objects the worlds hold: fields in the order of the slots, their types (written by wip/whole/emit.py out of the claim's own texts) -/
def q_T_0 : u_T := fun k => match k with
  | 0 => ("java/lang/AbstractStringBuilder", "value", "[B", false)
  | 1 => ("java/lang/AbstractStringBuilder", "coder", "B", false)
  | 2 => ("java/lang/AbstractStringBuilder", "maybeLatin1", "Z", false)
  | _ => ("java/lang/AbstractStringBuilder", "count", "I", false)
def q_ty_0 : Nat → FieldType := fun k => match k with
  | 0 => (.array .byte)
  | 1 => .byte
  | 2 => .boolean
  | _ => .int
theorem q_nm_0 : ∀ a, a < 4 → ∀ b, b < 4 → a ≠ b → (q_T_0 a).2.1 ≠ (q_T_0 b).2.1 := by decide +kernel
theorem q_tyok_0 : ∀ k, k < 4 → parseFieldDescriptor (q_T_0 k).2.2.1 = some (q_ty_0 k) := by decide +kernel
def q_T_1 : u_T := fun k => match k with
  | 0 => ("DoubleRootSums$Exponents", "row", "[I", true)
  | _ => ("DoubleRootSums$Exponents", "many", "I", false)
def q_ty_1 : Nat → FieldType := fun k => match k with
  | 0 => (.array .int)
  | _ => .int
theorem q_nm_1 : ∀ a, a < 2 → ∀ b, b < 2 → a ≠ b → (q_T_1 a).2.1 ≠ (q_T_1 b).2.1 := by decide +kernel
theorem q_tyok_1 : ∀ k, k < 2 → parseFieldDescriptor (q_T_1 k).2.2.1 = some (q_ty_1 k) := by decide +kernel
def q_T_2 : u_T := fun k => match k with
  | 0 => ("DoubleRootSums$Failures", "many", "I", false)
  | 1 => ("DoubleRootSums$Failures", "kinds", "[I", true)
  | _ => ("DoubleRootSums$Failures", "numbers", "[I", true)
def q_ty_2 : Nat → FieldType := fun k => match k with
  | 0 => .int
  | 1 => (.array .int)
  | _ => (.array .int)
theorem q_nm_2 : ∀ a, a < 3 → ∀ b, b < 3 → a ≠ b → (q_T_2 a).2.1 ≠ (q_T_2 b).2.1 := by decide +kernel
theorem q_tyok_2 : ∀ k, k < 3 → parseFieldDescriptor (q_T_2 k).2.2.1 = some (q_ty_2 k) := by decide +kernel
def q_T_3 : u_T := fun k => match k with
  | 0 => ("DoubleRootSums$Field", "p", "I", false)
  | 1 => ("DoubleRootSums$Field", "powers", "[[I", true)
  | _ => ("DoubleRootSums$Field", "overs", "[I", true)
def q_ty_3 : Nat → FieldType := fun k => match k with
  | 0 => .int
  | 1 => (.array (.array .int))
  | _ => (.array .int)
theorem q_nm_3 : ∀ a, a < 3 → ∀ b, b < 3 → a ≠ b → (q_T_3 a).2.1 ≠ (q_T_3 b).2.1 := by decide +kernel
theorem q_tyok_3 : ∀ k, k < 3 → parseFieldDescriptor (q_T_3 k).2.2.1 = some (q_ty_3 k) := by decide +kernel
def q_T_4 : u_T := fun k => match k with
  | 0 => ("DoubleRootSums$Form", "field", "LDoubleRootSums$Field;", true)
  | 1 => ("DoubleRootSums$Form", "cells", "[[I", true)
  | 2 => ("DoubleRootSums$Form", "found", "[I", true)
  | 3 => ("DoubleRootSums$Form", "rows", "I", false)
  | _ => ("DoubleRootSums$Form", "unknowns", "I", false)
def q_ty_4 : Nat → FieldType := fun k => match k with
  | 0 => (.object "DoubleRootSums$Field")
  | 1 => (.array (.array .int))
  | 2 => (.array .int)
  | 3 => .int
  | _ => .int
theorem q_nm_4 : ∀ a, a < 5 → ∀ b, b < 5 → a ≠ b → (q_T_4 a).2.1 ≠ (q_T_4 b).2.1 := by decide +kernel
theorem q_tyok_4 : ∀ k, k < 5 → parseFieldDescriptor (q_T_4 k).2.2.1 = some (q_ty_4 k) := by decide +kernel
def q_T_5 : u_T := fun k => match k with
  | 0 => ("DoubleRootSums$Lists", "rows", "[[J", true)
  | _ => ("DoubleRootSums$Lists", "sizes", "[I", true)
def q_ty_5 : Nat → FieldType := fun k => match k with
  | 0 => (.array (.array .long))
  | _ => (.array .int)
theorem q_nm_5 : ∀ a, a < 2 → ∀ b, b < 2 → a ≠ b → (q_T_5 a).2.1 ≠ (q_T_5 b).2.1 := by decide +kernel
theorem q_tyok_5 : ∀ k, k < 2 → parseFieldDescriptor (q_T_5 k).2.2.1 = some (q_ty_5 k) := by decide +kernel
def q_T_6 : u_T := fun k => match k with
  | 0 => ("DoubleRootSums$Lowered", "field", "LDoubleRootSums$Field;", true)
  | 1 => ("DoubleRootSums$Lowered", "span", "I", false)
  | 2 => ("DoubleRootSums$Lowered", "numbers", "[I", true)
  | 3 => ("DoubleRootSums$Lowered", "slope", "[I", true)
  | 4 => ("DoubleRootSums$Lowered", "common", "[I", true)
  | 5 => ("DoubleRootSums$Lowered", "rest", "[I", true)
  | _ => ("DoubleRootSums$Lowered", "commonTop", "I", false)
def q_ty_6 : Nat → FieldType := fun k => match k with
  | 0 => (.object "DoubleRootSums$Field")
  | 1 => .int
  | 2 => (.array .int)
  | 3 => (.array .int)
  | 4 => (.array .int)
  | 5 => (.array .int)
  | _ => .int
theorem q_nm_6 : ∀ a, a < 7 → ∀ b, b < 7 → a ≠ b → (q_T_6 a).2.1 ≠ (q_T_6 b).2.1 := by decide +kernel
theorem q_tyok_6 : ∀ k, k < 7 → parseFieldDescriptor (q_T_6 k).2.2.1 = some (q_ty_6 k) := by decide +kernel
def q_T_7 : u_T := fun k => match k with
  | 0 => ("DoubleRootSums$Matrix", "field", "LDoubleRootSums$Field;", true)
  | 1 => ("DoubleRootSums$Matrix", "cells", "[[I", true)
  | _ => ("DoubleRootSums$Matrix", "size", "I", false)
def q_ty_7 : Nat → FieldType := fun k => match k with
  | 0 => (.object "DoubleRootSums$Field")
  | 1 => (.array (.array .int))
  | _ => .int
theorem q_nm_7 : ∀ a, a < 3 → ∀ b, b < 3 → a ≠ b → (q_T_7 a).2.1 ≠ (q_T_7 b).2.1 := by decide +kernel
theorem q_tyok_7 : ∀ k, k < 3 → parseFieldDescriptor (q_T_7 k).2.2.1 = some (q_ty_7 k) := by decide +kernel
def q_T_8 : u_T := fun k => match k with
  | 0 => ("DoubleRootSums$SetUp", "letters", "[I", true)
  | 1 => ("DoubleRootSums$SetUp", "many", "I", false)
  | 2 => ("DoubleRootSums$SetUp", "clauses", "I", false)
  | 3 => ("DoubleRootSums$SetUp", "starts", "[I", true)
  | _ => ("DoubleRootSums$SetUp", "ends", "[I", true)
def q_ty_8 : Nat → FieldType := fun k => match k with
  | 0 => (.array .int)
  | 1 => .int
  | 2 => .int
  | 3 => (.array .int)
  | _ => (.array .int)
theorem q_nm_8 : ∀ a, a < 5 → ∀ b, b < 5 → a ≠ b → (q_T_8 a).2.1 ≠ (q_T_8 b).2.1 := by decide +kernel
theorem q_tyok_8 : ∀ k, k < 5 → parseFieldDescriptor (q_T_8 k).2.2.1 = some (q_ty_8 k) := by decide +kernel
def q_T_9 : u_T := fun k => match k with
  | 0 => ("DoubleRootSums$Steps", "many", "I", false)
  | 1 => ("DoubleRootSums$Steps", "kinds", "[I", true)
  | 2 => ("DoubleRootSums$Steps", "a", "[I", true)
  | 3 => ("DoubleRootSums$Steps", "b", "[I", true)
  | _ => ("DoubleRootSums$Steps", "c", "[I", true)
def q_ty_9 : Nat → FieldType := fun k => match k with
  | 0 => .int
  | 1 => (.array .int)
  | 2 => (.array .int)
  | 3 => (.array .int)
  | _ => (.array .int)
theorem q_nm_9 : ∀ a, a < 5 → ∀ b, b < 5 → a ≠ b → (q_T_9 a).2.1 ≠ (q_T_9 b).2.1 := by decide +kernel
theorem q_tyok_9 : ∀ k, k < 5 → parseFieldDescriptor (q_T_9 k).2.2.1 = some (q_ty_9 k) := by decide +kernel
def q_T_10 : u_T := fun k => match k with
  | 0 => ("DoubleRootSums$Stock", "prime", "I", false)
  | 1 => ("DoubleRootSums$Stock", "supports", "I", false)
  | 2 => ("DoubleRootSums$Stock", "bits", "[I", true)
  | 3 => ("DoubleRootSums$Stock", "sums", "I", false)
  | 4 => ("DoubleRootSums$Stock", "supportOf", "[I", true)
  | 5 => ("DoubleRootSums$Stock", "kind", "[I", true)
  | 6 => ("DoubleRootSums$Stock", "figure", "[I", true)
  | 7 => ("DoubleRootSums$Stock", "told", "[[I", true)
  | 8 => ("DoubleRootSums$Stock", "seen", "I", false)
  | 9 => ("DoubleRootSums$Stock", "seenX", "[I", true)
  | _ => ("DoubleRootSums$Stock", "seenV", "[I", true)
def q_ty_10 : Nat → FieldType := fun k => match k with
  | 0 => .int
  | 1 => .int
  | 2 => (.array .int)
  | 3 => .int
  | 4 => (.array .int)
  | 5 => (.array .int)
  | 6 => (.array .int)
  | 7 => (.array (.array .int))
  | 8 => .int
  | 9 => (.array .int)
  | _ => (.array .int)
theorem q_nm_10 : ∀ a, a < 11 → ∀ b, b < 11 → a ≠ b → (q_T_10 a).2.1 ≠ (q_T_10 b).2.1 := by decide +kernel
theorem q_tyok_10 : ∀ k, k < 11 → parseFieldDescriptor (q_T_10 k).2.2.1 = some (q_ty_10 k) := by decide +kernel
def q_T_11 : u_T := fun k => match k with
  | 0 => ("DoubleRootSums$Terms", "field", "LDoubleRootSums$Field;", true)
  | 1 => ("DoubleRootSums$Terms", "exponents", "LDoubleRootSums$Exponents;", true)
  | 2 => ("DoubleRootSums$Terms", "numbers", "[I", true)
  | 3 => ("DoubleRootSums$Terms", "whole", "[I", true)
  | 4 => ("DoubleRootSums$Terms", "kind", "I", false)
  | _ => ("DoubleRootSums$Terms", "figure", "I", false)
def q_ty_11 : Nat → FieldType := fun k => match k with
  | 0 => (.object "DoubleRootSums$Field")
  | 1 => (.object "DoubleRootSums$Exponents")
  | 2 => (.array .int)
  | 3 => (.array .int)
  | 4 => .int
  | _ => .int
theorem q_nm_11 : ∀ a, a < 6 → ∀ b, b < 6 → a ≠ b → (q_T_11 a).2.1 ≠ (q_T_11 b).2.1 := by decide +kernel
theorem q_tyok_11 : ∀ k, k < 6 → parseFieldDescriptor (q_T_11 k).2.2.1 = some (q_ty_11 k) := by decide +kernel
def q_T_12 : u_T := fun k => match k with
  | 0 => ("DoubleRootSums", "now", "LDoubleRootSums$Stock;", true)
  | 1 => ("DoubleRootSums", "kept", "LDoubleRootSums$Stock;", true)
  | 2 => ("DoubleRootSums", "hasImage", "Z", false)
  | 3 => ("DoubleRootSums", "field", "LDoubleRootSums$Field;", true)
  | 4 => ("DoubleRootSums", "exponents", "LDoubleRootSums$Exponents;", true)
  | 5 => ("DoubleRootSums", "terms", "LDoubleRootSums$Terms;", true)
  | 6 => ("DoubleRootSums", "lowered", "LDoubleRootSums$Lowered;", true)
  | 7 => ("DoubleRootSums", "matrix", "LDoubleRootSums$Matrix;", true)
  | 8 => ("DoubleRootSums", "form", "LDoubleRootSums$Form;", true)
  | 9 => ("DoubleRootSums", "steps", "LDoubleRootSums$Steps;", true)
  | 10 => ("DoubleRootSums", "lists", "LDoubleRootSums$Lists;", true)
  | 11 => ("DoubleRootSums", "text", "LDoubleRootSums$SetUp;", true)
  | 12 => ("DoubleRootSums", "written", "Ljava/lang/StringBuilder;", true)
  | 13 => ("DoubleRootSums", "failures", "LDoubleRootSums$Failures;", true)
  | _ => ("DoubleRootSums", "fresh", "[I", true)
def q_ty_12 : Nat → FieldType := fun k => match k with
  | 0 => (.object "DoubleRootSums$Stock")
  | 1 => (.object "DoubleRootSums$Stock")
  | 2 => .boolean
  | 3 => (.object "DoubleRootSums$Field")
  | 4 => (.object "DoubleRootSums$Exponents")
  | 5 => (.object "DoubleRootSums$Terms")
  | 6 => (.object "DoubleRootSums$Lowered")
  | 7 => (.object "DoubleRootSums$Matrix")
  | 8 => (.object "DoubleRootSums$Form")
  | 9 => (.object "DoubleRootSums$Steps")
  | 10 => (.object "DoubleRootSums$Lists")
  | 11 => (.object "DoubleRootSums$SetUp")
  | 12 => (.object "java/lang/StringBuilder")
  | 13 => (.object "DoubleRootSums$Failures")
  | _ => (.array .int)
theorem q_nm_12 : ∀ a, a < 15 → ∀ b, b < 15 → a ≠ b → (q_T_12 a).2.1 ≠ (q_T_12 b).2.1 := by decide +kernel
theorem q_tyok_12 : ∀ k, k < 15 → parseFieldDescriptor (q_T_12 k).2.2.1 = some (q_ty_12 k) := by decide +kernel
def q_T_13 : u_T := fun k => match k with
  | 0 => ("DoubleRootSumsModel", "primes", "[I", true)
  | 1 => ("DoubleRootSumsModel", "prime", "I", false)
  | 2 => ("DoubleRootSumsModel", "supports", "[I", true)
  | 3 => ("DoubleRootSumsModel", "supportMany", "I", false)
  | 4 => ("DoubleRootSumsModel", "supportOf", "[I", true)
  | 5 => ("DoubleRootSumsModel", "kinds", "[I", true)
  | 6 => ("DoubleRootSumsModel", "figures", "[I", true)
  | 7 => ("DoubleRootSumsModel", "told", "[I", true)
  | 8 => ("DoubleRootSumsModel", "sums", "I", false)
  | 9 => ("DoubleRootSumsModel", "now", "[I", true)
  | 10 => ("DoubleRootSumsModel", "left", "[I", true)
  | 11 => ("DoubleRootSumsModel", "low", "[I", true)
  | 12 => ("DoubleRootSumsModel", "slope", "[I", true)
  | 13 => ("DoubleRootSumsModel", "common", "[I", true)
  | 14 => ("DoubleRootSumsModel", "other", "[I", true)
  | 15 => ("DoubleRootSumsModel", "commonDeep", "I", false)
  | 16 => ("DoubleRootSumsModel", "deepSpan", "I", false)
  | 17 => ("DoubleRootSumsModel", "matrix", "[I", true)
  | 18 => ("DoubleRootSumsModel", "size", "I", false)
  | 19 => ("DoubleRootSumsModel", "aims", "[I", true)
  | 20 => ("DoubleRootSumsModel", "rests", "[I", true)
  | 21 => ("DoubleRootSumsModel", "found", "[I", true)
  | 22 => ("DoubleRootSumsModel", "grid", "[I", true)
  | 23 => ("DoubleRootSumsModel", "failureKind", "[I", true)
  | 24 => ("DoubleRootSumsModel", "failureOf", "[I", true)
  | 25 => ("DoubleRootSumsModel", "failures", "I", false)
  | 26 => ("DoubleRootSumsModel", "seenAt", "[I", true)
  | 27 => ("DoubleRootSumsModel", "seenAs", "[I", true)
  | 28 => ("DoubleRootSumsModel", "seen", "I", false)
  | 29 => ("DoubleRootSumsModel", "drawn", "[I", true)
  | 30 => ("DoubleRootSumsModel", "text", "[I", true)
  | 31 => ("DoubleRootSumsModel", "letters", "[I", true)
  | 32 => ("DoubleRootSumsModel", "numbers", "[I", true)
  | 33 => ("DoubleRootSumsModel", "fed", "I", false)
  | 34 => ("DoubleRootSumsModel", "at", "I", false)
  | 35 => ("DoubleRootSumsModel", "clauses", "I", false)
  | 36 => ("DoubleRootSumsModel", "paper", "[I", true)
  | 37 => ("DoubleRootSumsModel", "written", "I", false)
  | 38 => ("DoubleRootSumsModel", "stepWhere", "[I", true)
  | 39 => ("DoubleRootSumsModel", "stepOf", "[I", true)
  | 40 => ("DoubleRootSumsModel", "stepWas", "[I", true)
  | 41 => ("DoubleRootSumsModel", "steps", "I", false)
  | 42 => ("DoubleRootSumsModel", "sizes", "[I", true)
  | 43 => ("DoubleRootSumsModel", "items", "[J", true)
  | 44 => ("DoubleRootSumsModel", "moved", "[J", true)
  | 45 => ("DoubleRootSumsModel", "kept", "[I", true)
  | 46 => ("DoubleRootSumsModel", "cursor", "I", false)
  | 47 => ("DoubleRootSumsModel", "hasImage", "Z", false)
  | _ => ("DoubleRootSumsModel", "isKeeping", "Z", false)
def q_ty_13 : Nat → FieldType := fun k => match k with
  | 0 => (.array .int)
  | 1 => .int
  | 2 => (.array .int)
  | 3 => .int
  | 4 => (.array .int)
  | 5 => (.array .int)
  | 6 => (.array .int)
  | 7 => (.array .int)
  | 8 => .int
  | 9 => (.array .int)
  | 10 => (.array .int)
  | 11 => (.array .int)
  | 12 => (.array .int)
  | 13 => (.array .int)
  | 14 => (.array .int)
  | 15 => .int
  | 16 => .int
  | 17 => (.array .int)
  | 18 => .int
  | 19 => (.array .int)
  | 20 => (.array .int)
  | 21 => (.array .int)
  | 22 => (.array .int)
  | 23 => (.array .int)
  | 24 => (.array .int)
  | 25 => .int
  | 26 => (.array .int)
  | 27 => (.array .int)
  | 28 => .int
  | 29 => (.array .int)
  | 30 => (.array .int)
  | 31 => (.array .int)
  | 32 => (.array .int)
  | 33 => .int
  | 34 => .int
  | 35 => .int
  | 36 => (.array .int)
  | 37 => .int
  | 38 => (.array .int)
  | 39 => (.array .int)
  | 40 => (.array .int)
  | 41 => .int
  | 42 => (.array .int)
  | 43 => (.array .long)
  | 44 => (.array .long)
  | 45 => (.array .int)
  | 46 => .int
  | 47 => .boolean
  | _ => .boolean
theorem q_nm_13 : ∀ a, a < 49 → ∀ b, b < 49 → a ≠ b → (q_T_13 a).2.1 ≠ (q_T_13 b).2.1 := by decide +kernel
theorem q_tyok_13 : ∀ k, k < 49 → parseFieldDescriptor (q_T_13 k).2.2.1 = some (q_ty_13 k) := by decide +kernel
def q_cls : List vw_C := [("java/lang/StringBuilder", q_T_0, 4), ("DoubleRootSums$Exponents", q_T_1, 2), ("DoubleRootSums$Failures", q_T_2, 3), ("DoubleRootSums$Field", q_T_3, 3), ("DoubleRootSums$Form", q_T_4, 5), ("DoubleRootSums$Lists", q_T_5, 2), ("DoubleRootSums$Lowered", q_T_6, 7), ("DoubleRootSums$Matrix", q_T_7, 3), ("DoubleRootSums$SetUp", q_T_8, 5), ("DoubleRootSums$Steps", q_T_9, 5), ("DoubleRootSums$Stock", q_T_10, 11), ("DoubleRootSums$Terms", q_T_11, 6), ("DoubleRootSums", q_T_12, 15), ("DoubleRootSumsModel", q_T_13, 49)]
def q_ty (c : Nat) : Nat → FieldType := match c with
  | 0 => q_ty_0
  | 1 => q_ty_1
  | 2 => q_ty_2
  | 3 => q_ty_3
  | 4 => q_ty_4
  | 5 => q_ty_5
  | 6 => q_ty_6
  | 7 => q_ty_7
  | 8 => q_ty_8
  | 9 => q_ty_9
  | 10 => q_ty_10
  | 11 => q_ty_11
  | 12 => q_ty_12
  | _ => q_ty_13
/-- which fields hold a cell -/
def q_rk : List (List Bool) := [[true, false, false, false], [true, false], [false, true, true], [false, true, true], [true, true, true, false, false], [true, true], [true, false, true, true, true, true, false], [true, true, false], [true, false, false, true, true], [false, true, true, true, true], [false, false, true, false, true, true, true, true, false, true, true], [true, true, true, true, false, false], [true, true, false, true, true, true, true, true, true, true, true, true, true, true, true], [true, false, true, false, true, true, true, true, false, true, true, true, true, true, true, false, false, true, false, true, true, true, true, true, true, false, true, true, false, true, true, true, true, false, false, false, true, false, true, true, true, false, true, true, true, true, false, false, false]]
theorem q_cls_len : q_cls.length = 14 := rfl
theorem q_cls_ok : ∀ (c : Nat) (q : vw_C), q_cls[c]? = some q → (∀ k, k < q.2.2 → parseFieldDescriptor (q.2.1 k).2.2.1 = some (q_ty c k)) ∧ ∀ a, a < q.2.2 → ∀ b, b < q.2.2 → a ≠ b → (q.2.1 a).2.1 ≠ (q.2.1 b).2.1 := by
  intro c q h
  match c, h with
  | 0, h => cases h; exact ⟨q_tyok_0, q_nm_0⟩
  | 1, h => cases h; exact ⟨q_tyok_1, q_nm_1⟩
  | 2, h => cases h; exact ⟨q_tyok_2, q_nm_2⟩
  | 3, h => cases h; exact ⟨q_tyok_3, q_nm_3⟩
  | 4, h => cases h; exact ⟨q_tyok_4, q_nm_4⟩
  | 5, h => cases h; exact ⟨q_tyok_5, q_nm_5⟩
  | 6, h => cases h; exact ⟨q_tyok_6, q_nm_6⟩
  | 7, h => cases h; exact ⟨q_tyok_7, q_nm_7⟩
  | 8, h => cases h; exact ⟨q_tyok_8, q_nm_8⟩
  | 9, h => cases h; exact ⟨q_tyok_9, q_nm_9⟩
  | 10, h => cases h; exact ⟨q_tyok_10, q_nm_10⟩
  | 11, h => cases h; exact ⟨q_tyok_11, q_nm_11⟩
  | 12, h => cases h; exact ⟨q_tyok_12, q_nm_12⟩
  | 13, h => cases h; exact ⟨q_tyok_13, q_nm_13⟩
  | n + 14, h => exact absurd (List.getElem?_eq_some_iff.mp h).1 (by rw [q_cls_len]; omega)
