/-! how many bits: the class's count in parallel, the model's one by one -/
def r_bc (n : Nat) : Int := z_sum (fun e => if n.testBit e = true then 1 else 0) 31
theorem q_b_ushr {a e : Nat} (ha : a < 2147483648) (he : e < 32) : q_bin 8 (a : Int) (e : Int) = ((a >>> e : Nat) : Int) := by
  have hle : a >>> e ≤ a := Nat.shiftRight_le _ _
  have hsh : ∀ n : Nat, n < 32 → ((Int32.ofInt (n : Int)).toUInt32 &&& Int32.toUInt32 31).toBitVec.toNat % 32 = n := by decide +kernel
  show ((Int32.ofInt a).toUInt32 >>> ((Int32.ofInt (e : Int)).toUInt32 &&& Int32.toUInt32 31)).toInt32.toInt = _
  refine z_ti (k := a >>> e) ?_ (by omega)
  show ((Int32.ofInt a).toUInt32 >>> ((Int32.ofInt (e : Int)).toUInt32 &&& Int32.toUInt32 31)).toBitVec = _
  apply BitVec.eq_of_toNat_eq
  rw [UInt32.toBitVec_shiftRight]
  have hb : (Int32.ofInt a).toUInt32.toBitVec = BitVec.ofNat 32 a := z_bv a
  rw [hb]
  have h2 := hsh e he
  rw [BitVec.toNat_ofNat, Nat.mod_eq_of_lt (show a >>> e < 2 ^ 32 by omega)]
  show (BitVec.ofNat 32 a >>> (((Int32.ofInt (e : Int)).toUInt32 &&& Int32.toUInt32 31).toBitVec % 32).toNat).toNat = _
  rw [BitVec.toNat_ushiftRight, BitVec.toNat_umod, BitVec.toNat_ofNat, Nat.mod_eq_of_lt (show a < 2 ^ 32 by omega)]
  show a >>> (((Int32.ofInt (e : Int)).toUInt32 &&& Int32.toUInt32 31).toBitVec.toNat % 32) = _
  rw [h2]
theorem b_and {hi lo M k : Nat} (h1 : lo < 256) (h2 : k < 256) : (256 * hi + lo) &&& (256 * M + k) = 256 * (hi &&& M) + (lo &&& k) := by
  have h3 : lo &&& k < 2 ^ 8 := Nat.lt_of_le_of_lt Nat.and_le_left h1
  apply Nat.eq_of_testBit_eq
  intro i
  rw [Nat.testBit_and, show (256 : Nat) = 2 ^ 8 from rfl, Nat.testBit_two_pow_mul_add _ h1, Nat.testBit_two_pow_mul_add _ h2, Nat.testBit_two_pow_mul_add _ h3]
  split
  · rw [Nat.testBit_and]
  · rw [Nat.testBit_and]
theorem b_sh {hi lo s : Nat} (hs : s ≤ 8) (h1 : lo < 256) : (256 * hi + lo) >>> s = 256 * (hi >>> s) + (lo >>> s + 2 ^ (8 - s) * (hi % 2 ^ s)) := by
  rw [Nat.shiftRight_eq_div_pow, Nat.shiftRight_eq_div_pow, Nat.shiftRight_eq_div_pow]
  match s, hs with
  | 0, _ => simp [Nat.mod_one]
  | 1, _ => omega
  | 2, _ => omega
  | 3, _ => omega
  | 4, _ => omega
  | 5, _ => omega
  | 6, _ => omega
  | 7, _ => omega
  | 8, _ => omega
theorem b_d1 : ∀ lo, lo < 256 → ∀ c, c < 2 → (lo >>> 1 + 2 ^ (8 - 1) * c) &&& 85 = (lo >>> 1) &&& 85 ∧ lo >>> 1 + 2 ^ (8 - 1) * c < 256 := by decide +kernel
theorem b_d2 : ∀ lo, lo < 256 → ∀ c, c < 4 → (lo >>> 2 + 2 ^ (8 - 2) * c) &&& 51 = (lo >>> 2) &&& 51 ∧ lo >>> 2 + 2 ^ (8 - 2) * c < 256 := by decide +kernel
theorem b_d3 : ∀ lo, lo < 69 → ∀ c, c < 5 → (lo + (lo >>> 4 + 2 ^ (8 - 4) * c)) &&& 15 = (lo + lo >>> 4) &&& 15 ∧ lo + (lo >>> 4 + 2 ^ (8 - 4) * c) < 256 := by decide +kernel
theorem b_s1 {hi lo M : Nat} (h1 : lo < 256) : (256 * hi + lo) - (((256 * hi + lo) >>> 1) &&& (256 * M + 85)) = 256 * (hi - ((hi >>> 1) &&& M)) + (lo - ((lo >>> 1) &&& 85)) := by
  obtain ⟨d1, d2⟩ := b_d1 lo h1 (hi % 2 ^ 1) (Nat.mod_lt _ (by decide))
  rw [b_sh (by decide) h1, b_and d2 (by decide), d1]
  have e1 : (hi >>> 1) &&& M ≤ hi := Nat.le_trans Nat.and_le_left (Nat.shiftRight_le _ _)
  have e2 : (lo >>> 1) &&& 85 ≤ lo := Nat.le_trans Nat.and_le_left (Nat.shiftRight_le _ _)
  omega
theorem b_s2 {hi lo M : Nat} (h1 : lo < 256) : ((256 * hi + lo) &&& (256 * M + 51)) + (((256 * hi + lo) >>> 2) &&& (256 * M + 51)) = 256 * ((hi &&& M) + ((hi >>> 2) &&& M)) + ((lo &&& 51) + ((lo >>> 2) &&& 51)) := by
  obtain ⟨d1, d2⟩ := b_d2 lo h1 (hi % 2 ^ 2) (Nat.mod_lt _ (by decide))
  rw [b_sh (by decide) h1, b_and d2 (by decide), b_and h1 (by decide), d1]
  omega
theorem b_s3 {hi lo M : Nat} (h1 : lo < 69) (h2 : hi % 2 ^ 4 < 5) : ((256 * hi + lo) + ((256 * hi + lo) >>> 4)) &&& (256 * M + 15) = 256 * ((hi + hi >>> 4) &&& M) + ((lo + lo >>> 4) &&& 15) := by
  obtain ⟨d1, d2⟩ := b_d3 lo h1 (hi % 2 ^ 4) h2
  rw [b_sh (by decide) (by omega)]
  rw [show 256 * hi + lo + (256 * (hi >>> 4) + (lo >>> 4 + 2 ^ (8 - 4) * (hi % 2 ^ 4))) = 256 * (hi + hi >>> 4) + (lo + (lo >>> 4 + 2 ^ (8 - 4) * (hi % 2 ^ 4))) by omega, b_and d2 (by decide), d1]
/-- a byte through the first three steps -/
def b_1 (b : Nat) : Nat := b - ((b >>> 1) &&& 85)
def b_2 (b : Nat) : Nat := (b &&& 51) + ((b >>> 2) &&& 51)
def b_3 (b : Nat) : Nat := (b + b >>> 4) &&& 15
def b_pop (b : Nat) : Nat := (if b.testBit 0 = true then 1 else 0) + (if b.testBit 1 = true then 1 else 0) + (if b.testBit 2 = true then 1 else 0) + (if b.testBit 3 = true then 1 else 0) + (if b.testBit 4 = true then 1 else 0) + (if b.testBit 5 = true then 1 else 0) + (if b.testBit 6 = true then 1 else 0) + (if b.testBit 7 = true then 1 else 0)
theorem b_dec : ∀ b, b < 256 → b_1 b < 256 ∧ b_2 (b_1 b) < 69 ∧ b_2 (b_1 b) % 2 ^ 4 < 5 ∧ b_3 (b_2 (b_1 b)) = b_pop b ∧ b_3 (b_2 (b_1 b)) ≤ 8 := by decide +kernel
def b_W (a b c d : Nat) : Nat := 256 * (256 * (256 * d + c) + b) + a
theorem b_W1 {a b c d : Nat} (ha : a < 256) (hb : b < 256) (hc : c < 256) : b_W a b c d - ((b_W a b c d >>> 1) &&& 1431655765) = b_W (b_1 a) (b_1 b) (b_1 c) (b_1 d) := by
  unfold b_W b_1
  rw [show 1431655765 = 256 * (256 * (256 * 85 + 85) + 85) + 85 from rfl, b_s1 ha, b_s1 hb, b_s1 hc]
theorem b_W2 {a b c d : Nat} (ha : a < 256) (hb : b < 256) (hc : c < 256) : (b_W a b c d &&& 858993459) + ((b_W a b c d >>> 2) &&& 858993459) = b_W (b_2 a) (b_2 b) (b_2 c) (b_2 d) := by
  unfold b_W b_2
  rw [show 858993459 = 256 * (256 * (256 * 51 + 51) + 51) + 51 from rfl, b_s2 ha, b_s2 hb, b_s2 hc]
theorem b_W3 {a b c d : Nat} (ha : a < 69) (hb : b < 69) (hc : c < 69) (hb4 : b % 2 ^ 4 < 5) (hc4 : c % 2 ^ 4 < 5) (hd4 : d % 2 ^ 4 < 5) : (b_W a b c d + (b_W a b c d >>> 4)) &&& 252645135 = b_W (b_3 a) (b_3 b) (b_3 c) (b_3 d) := by
  unfold b_W b_3
  rw [show 252645135 = 256 * (256 * (256 * 15 + 15) + 15) + 15 from rfl, b_s3 ha (by omega), b_s3 hb (by omega), b_s3 hc (by omega)]
theorem b_W4 {a b c d : Nat} (ha : a ≤ 8) (hb : b ≤ 8) (hc : c ≤ 8) (hd : d ≤ 8) : ((b_W a b c d + b_W a b c d >>> 8) + (b_W a b c d + b_W a b c d >>> 8) >>> 16) &&& 63 = a + b + c + d := by
  rw [show 63 = 2 ^ 6 - 1 from rfl, Nat.and_two_pow_sub_one_eq_mod, Nat.shiftRight_eq_div_pow, Nat.shiftRight_eq_div_pow]
  unfold b_W
  rw [show (2 : Nat) ^ 8 = 256 from rfl, show (2 : Nat) ^ 16 = 65536 from rfl, show (2 : Nat) ^ 6 = 64 from rfl]
  have e1 : (256 * (256 * (256 * d + c) + b) + a) / 256 = 256 * (256 * d + c) + b := by omega
  rw [e1]
  have e2 : (256 * (256 * (256 * d + c) + b) + a + (256 * (256 * d + c) + b)) / 65536 = 257 * d + c := by omega
  rw [e2]
  omega
theorem b_bits {hi lo : Nat} (h : lo < 256) (j : Nat) : (256 * hi + lo).testBit j = if j < 8 then lo.testBit j else hi.testBit (j - 8) := by
  rw [show (256 : Nat) = 2 ^ 8 from rfl]
  exact Nat.testBit_two_pow_mul_add _ h j
theorem b_lo {hi lo j : Nat} (h : lo < 256) (hj : j < 8) : (256 * hi + lo).testBit j = lo.testBit j := by rw [b_bits h, if_pos hj]
theorem b_hi {hi lo j : Nat} (h : lo < 256) : (256 * hi + lo).testBit (8 + j) = hi.testBit j := by rw [b_bits h, if_neg (by omega), show 8 + j - 8 = j by omega]
theorem b_sum8 (f : Nat → Int) : z_sum f 8 = f 0 + f 1 + f 2 + f 3 + f 4 + f 5 + f 6 + f 7 := by
  show 0 + f 0 + f 1 + f 2 + f 3 + f 4 + f 5 + f 6 + f 7 = _
  omega
theorem b_popI (b : Nat) : z_sum (fun e => if b.testBit e = true then 1 else 0) 8 = (b_pop b : Int) := by
  rw [b_sum8]
  unfold b_pop
  simp only [Int.natCast_add]
  have e : ∀ c : Bool, ((if c = true then 1 else 0 : Nat) : Int) = if c = true then 1 else 0 := by decide
  rw [e, e, e, e, e, e, e, e]
theorem b_rbc {a b c d : Nat} (ha : a < 256) (hb : b < 256) (hc : c < 256) (hd : d < 128) : r_bc (b_W a b c d) = ((b_pop a + b_pop b + b_pop c + b_pop d : Nat) : Int) := by
  have e32 : r_bc (b_W a b c d) = z_sum (fun e => if (b_W a b c d).testBit e = true then 1 else 0) 32 := by
    show _ = z_sum (fun e => if (b_W a b c d).testBit e = true then 1 else 0) 31 + (if (b_W a b c d).testBit 31 = true then 1 else 0)
    have : (b_W a b c d).testBit 31 = false := by
      apply Nat.testBit_lt_two_pow
      unfold b_W
      omega
    rw [this]
    simp [r_bc]
  rw [e32]
  have s1 := z_sum_split (fun e => if (b_W a b c d).testBit e = true then (1 : Int) else 0) 8 24
  have s2 := z_sum_split (fun e => if (b_W a b c d).testBit (8 + e) = true then (1 : Int) else 0) 8 16
  have s3 := z_sum_split (fun e => if (b_W a b c d).testBit (8 + (8 + e)) = true then (1 : Int) else 0) 8 8
  have t0 : z_sum (fun e => if (b_W a b c d).testBit e = true then (1 : Int) else 0) 8 = (b_pop a : Int) := by
    rw [← b_popI]
    refine z_sum_congr fun k hk => ?_
    unfold b_W
    rw [b_lo ha hk]
  have t1 : z_sum (fun e => if (b_W a b c d).testBit (8 + e) = true then (1 : Int) else 0) 8 = (b_pop b : Int) := by
    rw [← b_popI]
    refine z_sum_congr fun k hk => ?_
    unfold b_W
    rw [b_hi ha, b_lo hb hk]
  have t2 : z_sum (fun e => if (b_W a b c d).testBit (8 + (8 + e)) = true then (1 : Int) else 0) 8 = (b_pop c : Int) := by
    rw [← b_popI]
    refine z_sum_congr fun k hk => ?_
    unfold b_W
    rw [b_hi ha, b_hi hb, b_lo hc hk]
  have t3 : z_sum (fun e => if (b_W a b c d).testBit (8 + (8 + (8 + e))) = true then (1 : Int) else 0) 8 = (b_pop d : Int) := by
    rw [← b_popI]
    refine z_sum_congr fun k hk => ?_
    unfold b_W
    rw [b_hi ha, b_hi hb, b_hi hc]
  rw [show (32 : Nat) = 8 + 24 from rfl, s1, t0, show (24 : Nat) = 8 + 16 from rfl, s2, t1, show (16 : Nat) = 8 + 8 from rfl, s3, t2, t3]
  simp only [Int.natCast_add]
  omega
theorem c_bitCount {S' : q_S} {Q : q_V → q_S → Prop} {n : Nat} {m : z_M} {g : z_g} (hS : S' = z_st m g) (hn : n < 2147483648) (kk : Q (.inl (r_bc n)) (z_st m g)) : z_C 19 [.inl (n : Int)] S' Q := by
  subst hS
  have hW : n = b_W (n % 256) (n / 256 % 256) (n / 65536 % 256) (n / 16777216) := by unfold b_W; omega
  have hA : n % 256 < 256 := by omega
  have hB : n / 256 % 256 < 256 := by omega
  have hC : n / 65536 % 256 < 256 := by omega
  have hD : n / 16777216 < 128 := by omega
  generalize n % 256 = a at hW hA
  generalize n / 256 % 256 = b at hW hB
  generalize n / 65536 % 256 = c at hW hC
  generalize n / 16777216 = d at hW hD
  subst hW
  obtain ⟨a1, a2, a3, a4, a5⟩ := b_dec a hA
  obtain ⟨b1, b2, b3, b4, b5⟩ := b_dec b hB
  obtain ⟨c1, c2, c3, c4, c5⟩ := b_dec c hC
  obtain ⟨d1, d2, d3, d4, d5⟩ := b_dec d (by omega)
  have dd : ∀ d, d < 128 → b_1 d < 128 ∧ b_2 (b_1 d) < 64 ∧ b_3 (b_2 (b_1 d)) < 9 := by decide +kernel
  obtain ⟨d6, d7, d8⟩ := dd d hD
  have bW : ∀ {x y z w : Nat}, x < 256 → y < 256 → z < 256 → w < 128 → b_W x y z w < 2147483648 := fun h1 h2 h3 h4 => by unfold b_W; omega
  refine y_19 ?_
  -- step by step
  have q1 : ((b_W a b c d : Nat) : Int) - q_bin 3 (q_bin 8 ((b_W a b c d : Nat) : Int) (1 : Int)) (1431655765 : Int) = ((b_W (b_1 a) (b_1 b) (b_1 c) (b_1 d) : Nat) : Int) := by
    have hle : (b_W a b c d >>> 1) ≤ b_W a b c d := Nat.shiftRight_le _ _
    have h0 := q_b_ushr (a := b_W a b c d) (e := 1) hn (by decide)
    have h1 := q_b_and (a := b_W a b c d >>> 1) (b := 1431655765) (by omega) (by decide)
    rw [show q_bin 8 ((b_W a b c d : Nat) : Int) (1 : Int) = ((b_W a b c d >>> 1 : Nat) : Int) from h0, show q_bin 3 ((b_W a b c d >>> 1 : Nat) : Int) (1431655765 : Int) = (((b_W a b c d >>> 1) &&& 1431655765 : Nat) : Int) from h1, ← b_W1 hA hB hC]
    have : (b_W a b c d >>> 1) &&& 1431655765 ≤ b_W a b c d := Nat.le_trans Nat.and_le_left hle
    omega
  rw [q1]
  have w1 := bW a1 b1 c1 d6
  generalize hx1 : b_W (b_1 a) (b_1 b) (b_1 c) (b_1 d) = x1 at *
  have q2 : q_bin 3 (x1 : Int) (858993459 : Int) + q_bin 3 (q_bin 8 (x1 : Int) (2 : Int)) (858993459 : Int) = ((b_W (b_2 (b_1 a)) (b_2 (b_1 b)) (b_2 (b_1 c)) (b_2 (b_1 d)) : Nat) : Int) := by
    have hle : (x1 >>> 2) ≤ x1 := Nat.shiftRight_le _ _
    rw [show q_bin 8 (x1 : Int) (2 : Int) = ((x1 >>> 2 : Nat) : Int) from q_b_ushr w1 (by decide), show q_bin 3 ((x1 >>> 2 : Nat) : Int) (858993459 : Int) = (((x1 >>> 2) &&& 858993459 : Nat) : Int) from q_b_and (by omega) (by decide), show q_bin 3 (x1 : Int) (858993459 : Int) = ((x1 &&& 858993459 : Nat) : Int) from q_b_and w1 (by decide), ← b_W2 a1 b1 c1, hx1]
    omega
  rw [q2]
  have w2 := bW (x := b_2 (b_1 a)) (y := b_2 (b_1 b)) (z := b_2 (b_1 c)) (w := b_2 (b_1 d)) (by omega) (by omega) (by omega) (by omega)
  have w2' : b_W (b_2 (b_1 a)) (b_2 (b_1 b)) (b_2 (b_1 c)) (b_2 (b_1 d)) < 1500000000 := by unfold b_W; omega
  generalize hx2 : b_W (b_2 (b_1 a)) (b_2 (b_1 b)) (b_2 (b_1 c)) (b_2 (b_1 d)) = x2 at *
  have q3 : q_bin 3 ((x2 : Int) + q_bin 8 (x2 : Int) (4 : Int)) (252645135 : Int) = ((b_W (b_3 (b_2 (b_1 a))) (b_3 (b_2 (b_1 b))) (b_3 (b_2 (b_1 c))) (b_3 (b_2 (b_1 d))) : Nat) : Int) := by
    have hle : (x2 >>> 4) * 16 ≤ x2 := by rw [Nat.shiftRight_eq_div_pow]; omega
    rw [show q_bin 8 (x2 : Int) (4 : Int) = ((x2 >>> 4 : Nat) : Int) from q_b_ushr w2 (by decide), ← Int.natCast_add, show q_bin 3 ((x2 + x2 >>> 4 : Nat) : Int) (252645135 : Int) = (((x2 + x2 >>> 4) &&& 252645135 : Nat) : Int) from q_b_and (by omega) (by decide), ← b_W3 a2 b2 c2 b3 c3 d3, hx2]
  rw [q3]
  have w3 : b_W (b_3 (b_2 (b_1 a))) (b_3 (b_2 (b_1 b))) (b_3 (b_2 (b_1 c))) (b_3 (b_2 (b_1 d))) < 200000000 := by unfold b_W; omega
  have f4 := b_W4 a5 b5 c5 (by omega : b_3 (b_2 (b_1 d)) ≤ 8)
  have fr := b_rbc hA hB hC hD
  rw [a4, b4, c4, d4] at f4
  rw [a4, b4, c4, d4] at w3 ⊢
  generalize hx3 : b_W (b_pop a) (b_pop b) (b_pop c) (b_pop d) = x3 at *
  have hle : (x3 >>> 8) ≤ x3 := Nat.shiftRight_le _ _
  have hle2 : ((x3 + x3 >>> 8) >>> 16) ≤ x3 + x3 >>> 8 := Nat.shiftRight_le _ _
  rw [show q_bin 8 (x3 : Int) (8 : Int) = ((x3 >>> 8 : Nat) : Int) from q_b_ushr (by omega) (by decide), ← Int.natCast_add, show q_bin 8 ((x3 + x3 >>> 8 : Nat) : Int) (16 : Int) = (((x3 + x3 >>> 8) >>> 16 : Nat) : Int) from q_b_ushr (by omega) (by decide), ← Int.natCast_add, show q_bin 3 ((x3 + x3 >>> 8 + (x3 + x3 >>> 8) >>> 16 : Nat) : Int) (63 : Int) = (((x3 + x3 >>> 8 + (x3 + x3 >>> 8) >>> 16) &&& 63 : Nat) : Int) from q_b_and (by omega) (by decide), f4]
  rw [fr] at kk
  exact kk
theorem n_bits {m : z_M} {g : z_g} {Q : q_V → q_S → Prop} {n : Nat} (hn : n < 2147483648) (kk : Q (.inl (r_bc n)) (z_st m g)) : z_C 254 [.inl (n : Int)] (z_st m g) Q := by
  have loop : ∀ (d k : Nat) (ki : Int), 31 - k = d → ki = (k : Int) → k ≤ 31 → z_T 254 4 [.inl (n : Int), .inl (z_sum (fun e => if n.testBit e = true then 1 else 0) k), .inl ki] [] (z_st m g) Q := by
    intro d
    induction d with
    | zero =>
      intro k ki hd he hk
      obtain rfl : k = 31 := by omega
      exact y_254_4 ⟨(by unfold z_ok2; omega), fun _ => kk, (fun h => absurd h (by omega))⟩
    | succ d ih =>
      intro k ki hd he hk
      have hb := q_b_bit (a := n) (e := k) hn (by omega)
      refine y_254_4 ⟨(by unfold z_ok2; omega), (fun h => absurd h (by omega)), fun _ => ?_⟩
      rw [he, hb]
      exact ih (k + 1) _ (by omega) (by omega) (by omega)
  exact y_254 (loop 31 0 0 rfl rfl (by omega))
/-- of a set of exponents: how many -/
theorem r_bc_many {S : Nat} (h : S < 8192) : r_bc S = (x_many S : Int) := by
  have h1 := x_sum S (fun _ => 1)
  have h2 : ∀ n, z_sum (fun _ => (1 : Int)) n = n := fun n => by
    induction n with
    | zero => rfl
    | succ n ih => show z_sum (fun _ => (1 : Int)) n + 1 = _; rw [ih]; omega
  rw [h2] at h1
  unfold r_bc
  rw [show (31 : Nat) = 13 + 18 from rfl, z_sum_split, h1, z_sum_0 (f := fun j => if S.testBit (13 + j) = true then (1 : Int) else 0), Int.add_zero]
  intro k _
  have : S.testBit (13 + k) = false := by
    apply Nat.testBit_lt_two_pow
    have : 2 ^ 13 ≤ 2 ^ (13 + k) := Nat.pow_le_pow_right (by decide) (by omega)
    omega
  simp [this]
