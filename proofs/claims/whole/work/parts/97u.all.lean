/-! PAIRS: all -/
def o_N (S : Nat) (a b c : Int) (e : Nat) : Int := if e = x_at S 0 then a else if e = x_at S 1 then b else if e = x_at S 2 then c else 0
theorem o_N_at {S : Nat} {a b c : Int} (h3 : x_many S = 3) : o_N S a b c (x_at S 0) = a ∧ o_N S a b c (x_at S 1) = b ∧ o_N S a b c (x_at S 2) = c := by
  have h01 := x_at_lt (S := S) (i := 0) (j := 1) (by omega) (by omega)
  have h12 := x_at_lt (S := S) (i := 1) (j := 2) (by omega) (by omega)
  unfold o_N
  exact ⟨if_pos rfl, by rw [if_neg (by omega), if_pos rfl], by rw [if_neg (by omega), if_neg (by omega), if_pos rfl]⟩
theorem o_N_N {p : Int} {S : Nat} {a b c : Int} (h3 : x_many S = 3) (hp : z_pr p) (ha : 0 ≤ a ∧ a < p) (hb : 0 ≤ b ∧ b < p) (hc : 0 ≤ c ∧ c < p) : x_N p S (o_N S a b c) := by
  have hp5 := z_pr_le hp
  refine ⟨fun e => ?_, fun e he => ?_⟩
  · unfold o_N
    split
    · exact ha
    · split
      · exact hb
      · split
        · exact hc
        · omega
  · have no : ∀ k, k < x_many S → ¬ e = x_at S k := fun k hk h => by
      have := x_at_mem hk
      rw [← h] at this
      rcases he with he | he
      · omega
      · exact he this.2
    unfold o_N
    rw [if_neg (no 0 (by omega)), if_neg (no 1 (by omega)), if_neg (no 2 (by omega))]
theorem o_v {p : Int} {S : Nat} {a b c x : Int} (h3 : x_many S = 3) (hp : z_pr p) (ha : 0 ≤ a ∧ a < p) (hb : 0 ≤ b ∧ b < p) (hc : 0 ≤ c ∧ c < p) : v_at p (o_N S a b c) x = (v_at p (o_N S a b 0) x + c * x ^ x_at S 2) % p := by
  have hp5 := z_pr_le hp
  have e1 := x_val (o_N_N h3 hp ha hb hc) x
  have e0 := x_val (o_N_N (c := 0) h3 hp ha hb ⟨by omega, by omega⟩) x
  obtain ⟨g1, g2, g3⟩ := o_N_at (a := a) (b := b) (c := c) h3
  obtain ⟨k1, k2, k3⟩ := o_N_at (a := a) (b := b) (c := 0) h3
  have s3 : ∀ f : Nat → Int, z_sum f 3 = f 0 + f 1 + f 2 := fun f => by
    show 0 + f 0 + f 1 + f 2 = _
    omega
  rw [h3, s3] at e1 e0
  simp only [g1, g2, g3] at e1
  simp only [k1, k2, k3] at e0
  unfold v_at
  rw [← e1, ← e0, Int.zero_mul, Int.add_zero, Int.emod_add_emod]
theorem o_root {p : Int} {S : Nat} {a b x : Int} (h3 : x_many S = 3) (hp : z_pr p) (ha : 0 ≤ a ∧ a < p) (hb : 0 ≤ b ∧ b < p) (h0 : 0 < x) (h1 : x < p) : ∀ c, 0 ≤ c → c < p → (v_at p (o_N S a b c) x = 0 ↔ c = (-v_at p (o_N S a b 0) x) * z_inv p (x ^ x_at S 2 % p) % p) := by
  intro c c0 c1
  have hp5 := z_pr_le hp
  rw [o_v h3 hp ha hb ⟨c0, c1⟩]
  generalize v_at p (o_N S a b 0) x = v
  have hX : ¬ x ^ x_at S 2 % p = 0 := fun h => by
    have := z_pow_nz hp h0 h1 (x_at S 2) 1 (by rw [Int.mul_one]; exact h)
    rw [z_mi (by omega) (by omega)] at this
    omega
  have hm := z_m0 (p := p) (a := x ^ x_at S 2) (by omega)
  have hi := (z_inv_one hp (x := x ^ x_at S 2 % p) (by omega) hm.2).1
  have key : ((-v) * z_inv p (x ^ x_at S 2 % p) % p * x ^ x_at S 2) % p = (-v) % p := by
    have e1 : ((-v) * z_inv p (x ^ x_at S 2 % p) % p * x ^ x_at S 2) % p = ((-v) * z_inv p (x ^ x_at S 2 % p) * (x ^ x_at S 2 % p)) % p := z_mmul z_mm z_mm.symm
    rw [e1, Int.mul_assoc, Int.mul_comm (z_inv p _), ← Int.mul_one (-v)]
    refine (z_mmul (by rw [Int.mul_one]) (c := _) (d := 1) ?_)
    rw [hi, z_mi (by omega) (by omega)]
  have hm2 := z_m0 (p := p) (a := (-v) * z_inv p (x ^ x_at S 2 % p)) (by omega)
  generalize (-v) * z_inv p (x ^ x_at S 2 % p) % p = w at key hm2
  have kz : (v + w * x ^ x_at S 2) % p = 0 := by
    have := z_madd (p := p) (a := v) (b := v) rfl key
    rw [this, Int.add_right_neg]
    rfl
  constructor
  · intro h
    have h2 : ((v + c * x ^ x_at S 2) - (v + w * x ^ x_at S 2)) % p = 0 := by
      rw [z_msub (b := 0) (d := 0) (by rw [h]; rfl) (by rw [kz]; rfl)]
      rfl
    have h4 : (x ^ x_at S 2 * (c - w)) % p = 0 := by
      rw [← h2]
      congr 1
      rw [Int.mul_sub, Int.mul_comm, Int.mul_comm (x ^ x_at S 2) w]
      omega
    have h5 := z_pow_nz hp h0 h1 _ _ h4
    have h6 := Int.emod_def (c - w) p
    by_cases hcw : 0 ≤ c - w
    · rw [z_mi hcw (by omega)] at h5
      omega
    · have h7 : (w - c) % p = 0 := by
        have := z_mneg (p := p) (a := c - w) (b := 0) (by rw [h5]; rfl)
        rw [show -(c - w) = w - c by omega] at this
        rw [this]
        rfl
      rw [z_mi (by omega) (by omega)] at h7
      omega
  · intro h
    rw [h]
    exact kz
/-- thirds: those by which there is a double root -/
def o_T (p : Int) (S : Nat) (a b : Int) (T : Nat) : Prop := T < 8192 ∧ ∀ c : Nat, T.testBit c = true ↔ 1 ≤ c ∧ (c : Int) < p ∧ x_dbl p (o_N S a b c)
theorem c_thirds {m : z_M} {g : z_g} {Q : q_V → q_S → Prop} {p : Int} {S : Nat} {a b : Int} (h3 : x_many S = 3) (hF : t_F m p) (hE : t_E m 66 S) (p13 : p ≤ 13) (ha : 1 ≤ a ∧ a < p) (hb : 1 ≤ b ∧ b < p) (kk : ∀ m' T, t_sam 68 68 m m' → o_T p S a b T → Q (.inl (T : Int)) (z_st m' g)) : z_C 126 [.inr (.inr 65), .inl a, .inl b] (z_st m g) Q := by
  have hp := hF.1
  have hp5 := z_pr_le hp
  have h6 : x_many S ≤ 6 := by omega
  have ha' : 0 ≤ a ∧ a < p := ⟨by omega, ha.2⟩
  have hb' : 0 ≤ b ∧ b < p := ⟨by omega, hb.2⟩
  have mkT : ∀ (m3 : z_M) (c : Int), t_sam 68 68 m m3 → m3 68 0 = a → m3 68 1 = b → m3 68 2 = c → t_TT m3 p S (o_N S a b c) := by
    intro m3 c q1 w0 w1 w2
    obtain ⟨g1, g2, g3⟩ := o_N_at (a := a) (b := b) (c := c) h3
    refine ⟨t_F_sam hF (by decide) q1, ⟨by rw [q1 66 1 (by omega)]; exact hE.1, fun k hk => by rw [q1 (66 + 1) k (by omega)]; exact hE.2 k hk⟩, fun k hk => ?_⟩
    have hk3 : k = 0 ∨ k = 1 ∨ k = 2 := by omega
    rcases hk3 with h | h | h
    · rw [h, g1]; exact w0
    · rw [h, g2]; exact w1
    · rw [h, g3]; exact w2
  have loop : ∀ (d y : Nat) (yi : Int) (m3 : z_M) (T : Nat) (da5 : q_V), p.toNat - y = d → yi = (y : Int) → 1 ≤ y → (y : Int) ≤ p → t_sam 68 68 m m3 → m3 68 0 = a → m3 68 1 = b → T < 8192 → (∀ c : Nat, T.testBit c = true ↔ 1 ≤ c ∧ (c : Int) < p ∧ ∃ z : Nat, 1 ≤ z ∧ z < y ∧ v_at p (o_N S a b c) z = 0 ∧ s_at p (o_N S a b c) z = 0) → z_T 126 14 [.inr (.inr 65), .inl a, .inl b, .inl (T : Int), .inl yi, da5] [] (z_st m3 g) Q := by
    intro d
    induction d with
    | zero =>
      intro y yi m3 T da5 hd hyi hy1 hyp q1 w0 w1 t8 tb
      have hy : (y : Int) = p := by omega
      refine y_126_14 ?_
      rw [q1 29 0 (by omega), hF.2.1]
      refine ⟨(by unfold z_ok2; omega), fun _ => kk m3 T q1 ⟨t8, fun c => (tb c).trans ?_⟩, (fun h => absurd h (by omega))⟩
      constructor
      · rintro ⟨c1, c2, z, z1, z2, z3, z4⟩
        exact ⟨c1, c2, z, z1, by omega, z3, z4⟩
      · rintro ⟨c1, c2, z, z1, z2, z3, z4⟩
        exact ⟨c1, c2, z, z1, by omega, z3, z4⟩
    | succ d ih =>
      intro y yi m3 T da5 hd hyi hy1 hyp q1 w0 w1 t8 tb
      subst hyi
      have hyp' : (y : Int) < p := by omega
      refine y_126_14 ?_
      rw [q1 29 0 (by omega), hF.2.1]
      refine ⟨(by unfold z_ok2; omega), (fun h => absurd h (by omega)), fun _ => ⟨⟨by omega, by omega⟩, ?_⟩⟩
      have q2 : t_sam 68 68 m (q_upd m3 68 2 0) := fun b' j h => by rw [z_un (by omega)]; exact q1 b' j h
      have hT2 := mkT (q_upd m3 68 2 0) 0 q2 (by rw [z_un (by omega)]; exact w0) (by rw [z_un (by omega)]; exact w1) (z_ue rfl rfl)
      have u0 : (q_upd m3 68 2 0) 68 0 = a := by rw [z_un (by omega)]; exact w0
      have u1 : (q_upd m3 68 2 0) 68 1 = b := by rw [z_un (by omega)]; exact w1
      generalize q_upd m3 68 2 0 = m4 at q2 hT2 u0 u1
      have hle := x_at_le (S := S) (k := 2) (by omega)
      have hN0 := o_N_N (c := 0) h3 hp ha' hb' ⟨by omega, by omega⟩
      have hX := z_m0 (p := p) (a := (y : Int) ^ x_at S 2) (by omega)
      have hv := v_at_rng (N := o_N S a b 0) (x := (y : Int)) hp
      have hw := z_inv_rng (x := (y : Int) ^ x_at S 2 % p) hp
      refine c_eat_b h6 hT2.2.1 (by omega) (by rw [h3]; decide) (y_126_33 (c_power hT2.1 (by omega) hyp' (by omega) (by show (x_at S 2 : Int) ≤ 12; omega) (y_126_34 ?_)))
      rw [show ((x_at S (2 : Int).toNat : Int)).toNat = x_at S 2 from Int.toNat_natCast _]
      refine c_over hT2.1 hX.1 hX.2 (y_126_35 (c_valueAt h6 hT2 hN0 (by omega) hyp' (y_126_44 ?_)))
      have rx := x_mul_rng (a := -v_at p (o_N S a b 0) y) (b := z_inv p ((y : Int) ^ x_at S 2 % p)) (A := 31) (B := 31) (by omega) (by omega) (by omega) (by omega)
      refine c_product hp hT2.1.2.1 (by unfold z_ok; omega) (y_126_47 ?_)
      have hroot := o_root (S := S) (a := a) (b := b) (x := (y : Int)) h3 hp ha' hb' (by omega) hyp'
      have hcr := z_m0 (p := p) (a := (-v_at p (o_N S a b 0) y) * z_inv p ((y : Int) ^ x_at S 2 % p)) (by omega)
      generalize (-v_at p (o_N S a b 0) y) * z_inv p ((y : Int) ^ x_at S 2 % p) % p = c at hroot hcr
      have q5 : t_sam 68 68 m (q_upd m4 68 2 c) := fun b' j h => by rw [z_un (by omega)]; exact q2 b' j h
      have hT5 := mkT (q_upd m4 68 2 c) c q5 (by rw [z_un (by omega)]; exact u0) (by rw [z_un (by omega)]; exact u1) (z_ue rfl rfl)
      have u50 : (q_upd m4 68 2 c) 68 0 = a := by rw [z_un (by omega)]; exact u0
      have u51 : (q_upd m4 68 2 c) 68 1 = b := by rw [z_un (by omega)]; exact u1
      have u52 : (q_upd m4 68 2 c) 68 2 = c := z_ue rfl rfl
      rw [show ((2 : Int)).toNat = 2 from rfl]
      refine ⟨⟨by omega, by omega⟩, ⟨by omega, by omega⟩, ?_⟩
      rw [u52]
      generalize q_upd m4 68 2 c = m5 at q5 hT5 u50 u51 u52
      have hvc : v_at p (o_N S a b c) y = 0 := (hroot c hcr.1 hcr.2).2 rfl
      have keep : (c = 0 ∨ ¬ s_at p (o_N S a b c) y = 0) → ∀ c' : Nat, T.testBit c' = true ↔ 1 ≤ c' ∧ (c' : Int) < p ∧ ∃ z : Nat, 1 ≤ z ∧ z < y + 1 ∧ v_at p (o_N S a b c') z = 0 ∧ s_at p (o_N S a b c') z = 0 := by
        intro hno c'
        refine (tb c').trans ⟨fun ⟨c1, c2, z, z1, z2, z3⟩ => ⟨c1, c2, z, z1, by omega, z3⟩, fun ⟨c1, c2, z, z1, z2, z3, z4⟩ => ⟨c1, c2, z, z1, ?_, z3, z4⟩⟩
        by_cases hz : z = y
        · subst hz
          have hc' := (hroot c' (by omega) c2).1 z3
          rcases hno with hno | hno
          · omega
          · rw [hc'] at z4; exact absurd z4 hno
        · omega
      refine ⟨(by unfold z_ok; omega), fun h0 => ih (y + 1) _ m5 T _ (by omega) (by omega) (by omega) (by omega) q5 u50 u51 t8 (keep (Or.inl h0)), fun h0 => ?_⟩
      have hsr := s_at_rng (N := o_N S a b c) (x := (y : Int)) hp
      refine c_slopeAt h6 hT5 (o_N_N h3 hp ha' hb' hcr) (by omega) hyp' (y_126_56 ⟨(by unfold z_ok; omega), fun hs => ih (y + 1) _ m5 T _ (by omega) (by omega) (by omega) (by omega) q5 u50 u51 t8 (keep (Or.inr hs)), fun hs => ⟨⟨by omega, by omega⟩, ?_⟩⟩)
      rw [u52]
      obtain ⟨cn, rfl⟩ := Int.eq_ofNat_of_zero_le hcr.1
      rw [t_b_step t8 (by omega)]
      have h12 : 2 ^ cn < 2 ^ 13 := Nat.pow_lt_pow_right (by decide) (by omega)
      refine ih (y + 1) _ m5 _ _ (by omega) (by omega) (by omega) (by omega) q5 u50 u51 (Nat.or_lt_two_pow (n := 13) t8 h12) (fun c' => ?_)
      rw [Nat.testBit_or, Nat.testBit_two_pow, Bool.or_eq_true, tb, decide_eq_true_eq]
      constructor
      · rintro (⟨c1, c2, z, z1, z2, z3⟩ | h)
        · exact ⟨c1, c2, z, z1, by omega, z3⟩
        · subst h
          exact ⟨by omega, by omega, y, hy1, by omega, hvc, hs⟩
      · rintro ⟨c1, c2, z, z1, z2, z3, z4⟩
        by_cases hz : z = y
        · subst hz
          have hc' := (hroot c' (by omega) c2).1 z3
          exact Or.inr (by omega)
        · exact Or.inl ⟨c1, c2, z, z1, by omega, z3, z4⟩
  refine y_126 ⟨⟨by omega, by omega⟩, ⟨by omega, by omega⟩, ?_⟩
  have q2 : t_sam 68 68 m (q_upd (q_upd m 68 0 a) 68 1 b) := fun b' j h => by rw [z_un (by omega), z_un (by omega)]
  exact loop (p.toNat - 1) 1 1 _ 0 _ (by omega) rfl (by omega) (by omega) q2 (by rw [z_un (by omega), z_ue rfl rfl]) (z_ue rfl rfl) (by decide) (fun c => ⟨fun h => by rw [Nat.zero_testBit] at h; exact absurd h (by decide), fun ⟨_, _, z, z1, z2, _⟩ => absurd z2 (by omega)⟩)
