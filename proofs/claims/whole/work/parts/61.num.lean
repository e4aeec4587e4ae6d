/-! numbers: the machine's int and long operations on whole numbers in range -/
theorem q_w_id {v : Int} (h1 : -2147483648 ≤ v) (h2 : v < 2147483648) : q_w v = v := by
  unfold q_w
  rw [Int32.toInt_ofInt_of_le (by omega) (by omega)]
theorem q_wl_id {v : Int} (h1 : -9223372036854775808 ≤ v) (h2 : v < 9223372036854775808) : q_wl v = v := by
  unfold q_wl
  rw [Int64.toInt_ofInt_of_le (by omega) (by omega)]
theorem q_w_lo (v : Int) : -2147483648 ≤ q_w v := by
  have := Int32.le_toInt (Int32.ofInt v)
  unfold q_w; omega
theorem q_w_hi (v : Int) : q_w v < 2147483648 := by
  have := Int32.toInt_lt (Int32.ofInt v)
  unfold q_w; omega
theorem q_w_w (v : Int) : q_w (q_w v) = q_w v := q_w_id (q_w_lo v) (q_w_hi v)
theorem q_tdiv_rng {x y : Int} (hx1 : -2147483648 ≤ x) (hx2 : x < 2147483648) (hy : 0 < y) : -2147483648 ≤ x.tdiv y ∧ x.tdiv y < 2147483648 := by
  have h1 : (x.tdiv y).natAbs ≤ x.natAbs := by
    rw [Int.natAbs_tdiv]
    exact Nat.div_le_self _ _
  by_cases h : 0 ≤ x
  · have := Int.tdiv_nonneg h (Int.le_of_lt hy)
    omega
  · have h3 : x.tdiv y ≤ 0 := by
      have := Int.tdiv_nonneg (a := -x) (b := y) (by omega) (Int.le_of_lt hy)
      rw [Int.neg_tdiv] at this
      omega
    omega
theorem q_i_div {x y : Int} (hx1 : -2147483648 ≤ x) (hx2 : x < 2147483648) (hy1 : 0 < y) (hy2 : y < 2147483648) : Int32.ofInt x / Int32.ofInt y = Int32.ofInt (x.tdiv y) := by
  apply Int32.toInt_inj.mp
  obtain ⟨h1, h2⟩ := q_tdiv_rng hx1 hx2 hy1
  have e1 : (Int32.ofInt x).toInt = x := q_w_id hx1 hx2
  have e2 : (Int32.ofInt y).toInt = y := q_w_id (by omega) hy2
  have e3 : (Int32.ofInt (x.tdiv y)).toInt = x.tdiv y := q_w_id h1 h2
  rw [Int32.toInt_div, e1, e2, e3]
  exact Int.bmod_eq_of_le (by omega) (by omega)
theorem q_b_div {x y : Int} (hx1 : -2147483648 ≤ x) (hx2 : x < 2147483648) (hy1 : 0 < y) (hy2 : y < 2147483648) : q_bin 9 x y = x.tdiv y := by
  show (Int32.ofInt x / Int32.ofInt y).toInt = _
  rw [q_i_div hx1 hx2 hy1 hy2]
  obtain ⟨h1, h2⟩ := q_tdiv_rng hx1 hx2 hy1
  exact q_w_id h1 h2
theorem q_b_rem {x y : Int} (hx1 : -2147483648 ≤ x) (hx2 : x < 2147483648) (hy1 : 0 < y) (hy2 : y < 2147483648) : q_bin 10 x y = x.tmod y := by
  show (Int32.ofInt x - Int32.ofInt x / Int32.ofInt y * Int32.ofInt y).toInt = _
  rw [q_i_div hx1 hx2 hy1 hy2, ← Int32.ofInt_mul, ← Int32.ofInt_sub]
  have e : x - x.tdiv y * y = x.tmod y := by
    have := Int.tmod_add_mul_tdiv x y
    rw [Int.mul_comm] at this
    omega
  rw [e]
  have h1 : (x.tmod y).natAbs < y.natAbs := by
    rw [Int.natAbs_tmod]
    exact Nat.mod_lt _ (by omega)
  exact q_w_id (by omega) (by omega)
theorem q_b_xor_neg (x y : Int) : q_bin 5 x y < 0 ↔ ¬ (q_w x < 0 ↔ q_w y < 0) := by
  have h : ∀ a : Int32, (a.toInt < 0 ↔ a.toBitVec.msb = true) := fun a => by
    rw [BitVec.msb_eq_toInt, decide_eq_true_eq]
    exact Iff.rfl
  show (Int32.ofInt x ^^^ Int32.ofInt y).toInt < 0 ↔ ¬ ((Int32.ofInt x).toInt < 0 ↔ (Int32.ofInt y).toInt < 0)
  rw [h, h, h, Int32.toBitVec_xor, BitVec.msb_xor]
  cases (Int32.ofInt x).toBitVec.msb <;> cases (Int32.ofInt y).toBitVec.msb <;> simp
theorem q_w_bin5 (x y : Int) : q_w (q_bin 5 x y) = q_bin 5 x y := by
  show (Int32.ofInt (Int32.ofInt x ^^^ Int32.ofInt y).toInt).toInt = (Int32.ofInt x ^^^ Int32.ofInt y).toInt
  rw [q_i_of]
/-- floorMod's three ends -/
theorem q_fm1 {v p : Int} (hv : 0 ≤ v) : v.tmod p = v % p := Int.tmod_eq_emod_of_nonneg hv
theorem q_fm0 {v p : Int} (hp : 0 < p) : v.tmod p < p ∧ -p < v.tmod p ∧ (v < 0 → v.tmod p ≤ 0) := by
  have h1 : (v.tmod p).natAbs < p.natAbs := by
    rw [Int.natAbs_tmod]
    exact Nat.mod_lt _ (by omega)
  refine ⟨by omega, by omega, fun h => ?_⟩
  have := Int.tmod_nonneg p (show 0 ≤ -v by omega)
  rw [Int.neg_tmod] at this
  omega
theorem q_fm2 {v p : Int} (hp : 0 < p) (hv : v < 0) : v % p = if v.tmod p = 0 then 0 else v.tmod p + p := by
  obtain ⟨h1, h2, h3⟩ := q_fm0 (v := v) hp
  have h4 := h3 hv
  have e := Int.tmod_add_mul_tdiv v p
  have e2 : v % p = v.tmod p % p := by
    rw [← e, Int.add_mul_emod_self_left, e]
  rw [e2]
  by_cases h : v.tmod p = 0
  · rw [if_pos h, h]; rfl
  · rw [if_neg h]
    have : (v.tmod p + p) % p = v.tmod p % p := Int.add_emod_right ..
    rw [← this]
    exact Int.emod_eq_of_lt (by omega) (by omega)
