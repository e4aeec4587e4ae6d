/-! types of the abstract machine -/
abbrev q_V : Type := Int ⊕ (Int ⊕ Nat)
abbrev q_S : Type := (Nat → Nat → Int) × (Nat → Nat → Nat) × List (Nat × Nat) × Nat
abbrev q_I : Type := Nat × Nat × Nat × Int × List Nat
/-- a method: its code, how many locals -/
abbrev q_M : Type := List q_I × Nat
