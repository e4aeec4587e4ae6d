/-! how many bits: the class's count in parallel, the model's one by one -/
def r_bc (n : Nat) : Int := z_sum (fun e => if n.testBit e = true then 1 else 0) 31
theorem q_b_ushr {a e : Nat} (ha : a < 2147483648) (he : e < 32) : q_bin 8 (a : Int) (e : Int) = ((a >>> e : Nat) : Int) := by
  have hle : a >>> e ≤ a := Nat.shiftRight_le _ _
  have hsh : ∀ n : Nat, n < 32 → ((Int32.ofInt (n : Int)).toUInt32 &&& Int32.toUInt32 31).toBitVec.toNat % 32 = n := by decide +kernel
  show ((Int32.ofInt a).toUInt32 >>> ((Int32.ofInt (e : Int)).toUInt32 &&& Int32.toUInt32 31)).toInt32.toInt = _
  refine z_ti (k := a >>> e) ?_ (by omega)
  show ((Int32.ofInt a).toUInt32 >>> ((Int32.ofInt (e : Int)).toUInt32 &&& Int32.toUInt32 31)).toBitVec = _
  apply BitVec.eq_of_toNat_eq
  rw [UInt32.toBitVec_shiftRight]
  have hb : (Int32.ofInt a).toUInt32.toBitVec = BitVec.ofNat 32 a := z_bv a
  rw [hb]
  have h2 := hsh e he
  rw [BitVec.toNat_ofNat, Nat.mod_eq_of_lt (show a >>> e < 2 ^ 32 by omega)]
  show (BitVec.ofNat 32 a >>> (((Int32.ofInt (e : Int)).toUInt32 &&& Int32.toUInt32 31).toBitVec % 32)).toNat = _
  rw [BitVec.toNat_ushiftRight', BitVec.toNat_umod, BitVec.toNat_ofNat, Nat.mod_eq_of_lt (show a < 2 ^ 32 by omega)]
  show a >>> (((Int32.ofInt (e : Int)).toUInt32 &&& Int32.toUInt32 31).toBitVec.toNat % 32) = _
  rw [h2]
