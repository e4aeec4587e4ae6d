/-! READING A TEXT: what a clause does, on each side -/
theorem c_bitsOfSigns {m : z_M} {g : z_g} {Q : q_V → q_S → Prop} {n : Int} {tx : Nat → Int} {a b : Nat} (h : pa_X m n tx) (hab : a ≤ b) (b200 : b < 200) (hs : ∀ i, a ≤ i → i < b → pa_si (pa_T n tx i) = true) (kk : Q (.inl (pa_bits n tx a (b - a) : Int)) (z_st m g)) : z_C 153 [.inr (.inr 121), .inl (a : Int), .inl (b : Int)] (z_st m g) Q := by
  have loop : ∀ (d k : Nat) (ki : Int) (d5 : q_V), a + k + d = b → ki = ((a + k : Nat) : Int) → z_T 153 4 [.inr (.inr 121), .inl (a : Int), .inl (b : Int), .inl (pa_bits n tx a k : Int), .inl ki, d5] [] (z_st m g) Q := by
    intro d
    induction d with
    | zero =>
      intro k ki d5 hk hki
      refine y_153_4 ⟨(by unfold z_ok2; omega), fun _ => ?_, (fun h => absurd h (by omega))⟩
      rw [show b - a = k by omega] at kk
      exact kk
    | succ d ih =>
      intro k ki d5 hk hki
      have hsi := hs (a + k) (by omega) (by omega)
      have h0 := of_decide_eq_true hsi
      have h2 := pa_sg_rng (c := pa_T n tx (a + k))
      refine y_153_4 ⟨(by unfold z_ok2; omega), (fun h => absurd h (by omega)), fun _ => c_signAt h hki (by omega) (y_153_10 ⟨(by unfold z_ok; omega), (fun h => absurd h (by omega)), fun _ => ?_⟩)⟩
      rw [pa_bits_s hsi]
      exact ih (k + 1) _ _ (by omega) (by omega)
  exact y_153 (loop (b - a) 0 (a : Int) _ (by omega) rfl)
def pa_jc (c : Int) : Nat := if c = 97 then 18 else if c = 110 then 43 else if c = 112 then 15 else 39
def pa_jm (c : Int) : Nat := if c = 97 then 190 else if c = 110 then 208 else if c = 112 then 187 else 206
def pa_as (n : Int) (tx : Nat → Int) (a b : Nat) : List q_V := if pa_T n tx a = 97 ∨ pa_T n tx a = 112 then [.inl (pa_ar n tx a b 0)] else [.inl (pa_ar n tx a b 0), .inl (pa_ar n tx a b 1), .inl (pa_ar n tx a b 2)]
theorem pa_ar_rng {n : Int} {tx : Nat → Int} {a b i : Nat} : -1 - 10 ≤ pa_ar n tx a b i ∧ pa_ar n tx a b i ≤ 8192 := by
  have h1 := pa_bits_lt (n := n) (tx := tx) (s := a + 1) (b - (a + 1))
  have h2 := pa_sg_rng (c := pa_T n tx (a + 3))
  have h3 := pa_sg_rng (c := pa_T n tx (a + 4))
  have h4 := pa_sg_rng (c := pa_T n tx (a + 1 + i))
  unfold pa_ar
  split
  · omega
  · split <;> omega
theorem pa_letter {n : Int} {tx : Nat → Int} {a : Nat} (h : pa_good n tx a) : pa_T n tx a = 97 ∨ pa_T n tx a = 110 ∨ pa_T n tx a = 112 ∨ pa_T n tx a = 115 := by
  have h := h.1
  unfold pa_len at h
  by_cases h1 : pa_T n tx a = 97
  · exact Or.inl h1
  · by_cases h2 : pa_T n tx a = 110
    · exact Or.inr (Or.inl h2)
    · by_cases h3 : pa_T n tx a = 112
      · exact Or.inr (Or.inr (Or.inl h3))
      · by_cases h4 : pa_T n tx a = 115
        · exact Or.inr (Or.inr (Or.inr h4))
        · rw [if_neg h1, if_neg h2, if_neg h3, if_neg h4] at h
          exact absurd rfl h
theorem pa_signs {n : Int} {tx : Nat → Int} {a : Nat} (h : pa_good n tx a) (h97 : pa_T n tx a = 97) : a + 1 ≤ pa_fin n tx a ∧ ∀ i, a + 1 ≤ i → i < pa_fin n tx a → pa_si (pa_T n tx i) = true := by
  have hst := h.2
  have hw : pa_len (pa_T n tx a) = 3 := by rw [h97]; rfl
  rw [hw, pa_stop_a h97] at hst
  have hfin : pa_fin n tx a = x_fst (fun i => !pa_si (pa_T n tx i)) 4 (a + 3) := by unfold pa_fin; rw [if_pos h97]
  have hfr := x_fst_rng (fun i => !pa_si (pa_T n tx i)) 4 (a + 3)
  refine ⟨by omega, fun i h1 h2 => ?_⟩
  have key : ¬ (!pa_si (pa_T n tx i)) = true := by
    by_cases h3 : i < a + 3
    · exact x_fst_n (f := fun i => !pa_si (pa_T n tx i)) (d := 2) (s := a + 1) h1 (by omega)
    · exact x_fst_n (f := fun i => !pa_si (pa_T n tx i)) (d := 4) (s := a + 3) (by omega) (by omega)
  cases hb : pa_si (pa_T n tx i) with
  | true => rfl
  | false => rw [hb] at key; exact absurd rfl key
theorem pa_parse_mem {n : Int} {tx : Nat → Int} (hn : n ≤ 80) : ∀ (f s i a b : Nat), (s : Int) ≤ n → (pa_parse n tx f s).1[i]? = some (a, b) → pa_good n tx a ∧ b = pa_fin n tx a ∧ a ≤ 80
  | 0, s, i, a, b, _, h => by
    have h : ([] : List (Nat × Nat))[i]? = some (a, b) := h
    rw [List.getElem?_nil] at h
    cases h
  | f + 1, s, i, a, b, hs, h => by
    unfold pa_parse at h
    by_cases hb : pa_len (pa_T n tx s) = 0 ∨ pa_stop n tx s < s + pa_len (pa_T n tx s)
    · rw [if_pos hb] at h
      have h : ([] : List (Nat × Nat))[i]? = some (a, b) := h
      rw [List.getElem?_nil] at h
      cases h
    · rw [if_neg hb] at h
      have hg := pa_good_iff.2 hb
      have one : ([(s, pa_fin n tx s)] : List (Nat × Nat))[i]? = some (a, b) → pa_good n tx a ∧ b = pa_fin n tx a ∧ a ≤ 80 := fun h => by
        cases i with
        | zero => cases h; exact ⟨hg, rfl, by omega⟩
        | succ i => rw [List.getElem?_cons_succ, List.getElem?_nil] at h; cases h
      by_cases he : (pa_fin n tx s : Int) = n
      · rw [if_pos he] at h; exact one h
      · rw [if_neg he] at h
        by_cases h59 : ¬ pa_T n tx (pa_fin n tx s) = 59 ∨ f = 0
        · rw [if_pos h59] at h; exact one h
        · rw [if_neg h59] at h
          have hlt := pa_T_lt (m := fun _ _ => 0) (n := n) (tx := tx) (i := pa_fin n tx s) (by omega)
          cases i with
          | zero => cases h; exact ⟨hg, rfl, by omega⟩
          | succ i => exact pa_parse_mem hn f _ i a b (by omega) h
theorem c_doClause {m : z_M} {g : z_g} {Q : q_V → q_S → Prop} {n : Int} {tx : Nat → Int} {a b : Nat} (h : pa_X m n tx) (hg : pa_good n tx a) (hb : b = pa_fin n tx a) (a80 : a ≤ 80) (kk : z_C (pa_jc (pa_T n tx a)) (.inr (.inr 0) :: pa_as n tx a b) (z_st m g) (fun r S' => ∃ v m', r = .inl v ∧ S' = z_st m' g ∧ Q (.inl v) (z_st m' g))) : z_C 152 [.inr (.inr 0), .inl (a : Int), .inl (b : Int)] (z_st m g) Q := by
  have hr := pa_T_rng (i := a) h
  have hfl := pa_fin_le (n := n) (tx := tx) (s := a)
  have hlet := pa_letter hg
  unfold pa_jc pa_as at kk
  refine y_152 (c_letterAt h rfl (by omega) (y_152_4 ⟨(by unfold z_ok; omega), fun h97 => ?_, fun h97 => ⟨fun h110 => ?_, fun h110 => ⟨fun h112 => ?_, fun h112 => ⟨fun h115 => ?_, fun h115 => absurd hlet (by omega)⟩⟩⟩⟩))
  · obtain ⟨q1, q2⟩ := pa_signs hg h97
    rw [if_pos h97, if_pos (Or.inl h97)] at kk
    have e : pa_ar n tx a b 0 = (pa_bits n tx (a + 1) (b - (a + 1)) : Int) := by unfold pa_ar; rw [if_pos h97]
    rw [e] at kk
    rw [show ((a : Int) + 1) = ((a + 1 : Nat) : Int) by omega]
    refine c_bitsOfSigns h (by omega) (by omega) (fun i h1 h2 => q2 i h1 (by omega)) (y_152_22 (z_C.imp kk ?_))
    rintro r S' ⟨v, m', rfl, rfl, hq⟩
    exact y_152_23 hq
  · rw [if_neg h97, if_pos h110, if_neg (by omega)] at kk
    have e0 : pa_ar n tx a b 0 = pa_sg (pa_T n tx (a + 1)) := by unfold pa_ar; rw [if_neg h97, if_neg (by omega)]
    have e1 : pa_ar n tx a b 1 = pa_sg (pa_T n tx (a + 2)) := by unfold pa_ar; rw [if_neg h97, if_neg (by omega)]
    have e2 : pa_ar n tx a b 2 = 10 * pa_sg (pa_T n tx (a + 3)) + pa_sg (pa_T n tx (a + 4)) := by unfold pa_ar; rw [if_neg h97, if_pos ⟨h110, rfl⟩]
    rw [e0, e1, e2] at kk
    refine c_signAt (k := a + 1) h (by omega) (by omega) (y_152_52 (c_signAt (k := a + 2) h (by omega) (by omega) (y_152_58 (c_signAt (k := a + 3) h (by omega) (by omega) (y_152_65 (c_signAt (k := a + 4) h (by omega) (by omega) (y_152_72 (z_C.imp kk ?_))))))))
    rintro r S' ⟨v, m', rfl, rfl, hq⟩
    exact y_152_74 hq
  · rw [if_neg h97, if_neg h110, if_pos h112, if_pos (Or.inr h112)] at kk
    have e0 : pa_ar n tx a b 0 = pa_sg (pa_T n tx (a + 1)) := by unfold pa_ar; rw [if_neg h97, if_neg (by omega)]
    rw [e0] at kk
    refine c_signAt (k := a + 1) h (by omega) (by omega) (y_152_12 (z_C.imp kk ?_))
    rintro r S' ⟨v, m', rfl, rfl, hq⟩
    exact y_152_13 hq
  · rw [if_neg h97, if_neg h110, if_neg h112, if_neg (by omega)] at kk
    have e0 : pa_ar n tx a b 0 = pa_sg (pa_T n tx (a + 1)) := by unfold pa_ar; rw [if_neg h97, if_neg (by omega)]
    have e1 : pa_ar n tx a b 1 = pa_sg (pa_T n tx (a + 2)) := by unfold pa_ar; rw [if_neg h97, if_neg (by omega)]
    have e2 : pa_ar n tx a b 2 = pa_sg (pa_T n tx (a + 3)) := by unfold pa_ar; rw [if_neg h97, if_neg (by omega)]
    rw [e0, e1, e2] at kk
    refine c_signAt (k := a + 1) h (by omega) (by omega) (y_152_31 (c_signAt (k := a + 2) h (by omega) (by omega) (y_152_37 (c_signAt (k := a + 3) h (by omega) (by omega) (y_152_43 (z_C.imp kk ?_))))))
    rintro r S' ⟨v, m', rfl, rfl, hq⟩
    exact y_152_44 hq
theorem n_does {m : z_M} {g : z_g} {Q : q_V → q_S → Prop} {n : Int} {tx : Nat → Int} {a b i : Nat} {l : List (Nat × Nat)} (hg : pa_good n tx a) (hl : l[i]? = some (a, b)) (hm : pa_mr m n tx l) (i10 : i < 10) (kk : z_C (pa_jm (pa_T n tx a)) (.inr (.inr 131) :: pa_as n tx a b) (z_st m g) (fun r S' => ∃ v m', r = .inl v ∧ S' = z_st m' g ∧ Q (.inl v) (z_st m' g))) : z_C 279 [.inr (.inr 131), .inl (i : Int)] (z_st m g) Q := by
  have hlet := pa_letter hg
  obtain ⟨r1, r2⟩ := hm i a b hl
  unfold pa_jm pa_as at kk
  have i0 : (4 * (i : Int)).toNat = 4 * i + 0 := by omega
  have i1 : (4 * (i : Int) + 1).toNat = 4 * i + 1 := by omega
  have i2 : (4 * (i : Int) + 2).toNat = 4 * i + 2 := by omega
  refine y_279 ?_
  rw [i0, i1, i2, show ((i : Int)).toNat = i by omega, r1]
  refine ⟨⟨by omega, by omega⟩, ⟨by omega, by omega⟩, ⟨by omega, by omega⟩, ⟨by omega, by omega⟩, (by unfold z_ok2; omega), fun h112 => ⟨⟨by omega, by omega⟩, (by unfold z_ok2; omega), fun h97 => ⟨⟨by omega, by omega⟩, (by unfold z_ok2; omega), fun h115 => ?_, fun h115 => ?_⟩, fun h97 => ?_⟩, fun h112 => ?_⟩
  · have h110 : pa_T n tx a = 110 := by omega
    have hna : pa_na (pa_T n tx a) = 3 := by rw [h110]; rfl
    rw [if_neg h97, if_pos h110, if_neg (by omega)] at kk
    rw [r2 0 (by omega), r2 1 (by omega), r2 2 (by omega)]
    refine z_C.imp kk ?_
    rintro r S' ⟨v, m', rfl, rfl, hq⟩
    exact y_279_62 hq
  · have hna : pa_na (pa_T n tx a) = 3 := by rw [h115]; rfl
    rw [if_neg h97, if_neg (by omega), if_neg h112, if_neg (by omega)] at kk
    rw [r2 0 (by omega), r2 1 (by omega), r2 2 (by omega)]
    refine z_C.imp kk ?_
    rintro r S' ⟨v, m', rfl, rfl, hq⟩
    exact y_279_56 (y_279_62 hq)
  · have hna : pa_na (pa_T n tx a) = 1 := by rw [h97]; rfl
    rw [if_pos h97, if_pos (Or.inl h97)] at kk
    rw [r2 0 (by omega)]
    refine z_C.imp kk ?_
    rintro r S' ⟨v, m', rfl, rfl, hq⟩
    exact y_279_44 (y_279_62 hq)
  · have hna : pa_na (pa_T n tx a) = 1 := by rw [h112]; rfl
    rw [if_neg (by omega), if_neg (by omega), if_pos h112, if_pos (Or.inr h112)] at kk
    rw [r2 0 (by omega)]
    refine z_C.imp kk ?_
    rintro r S' ⟨v, m', rfl, rfl, hq⟩
    exact y_279_34 (y_279_62 hq)
theorem p_act {L : Nat} {m : z_M} {g : z_g} {n : Int} {tx : Nat → Int} {a b : Nat} (hI : I L m g) (hg : pa_good n tx a) : z_pI (I L) (pa_jc (pa_T n tx a)) (pa_jm (pa_T n tx a)) (pa_as n tx a b) m g := by
  have hlet := pa_letter hg
  have hr : ∀ i, z_ok (pa_ar n tx a b i) := fun i => by
    have := pa_ar_rng (n := n) (tx := tx) (a := a) (b := b) (i := i)
    unfold z_ok
    omega
  unfold pa_jc pa_jm pa_as
  rcases hlet with h | h | h | h
  · rw [if_pos h, if_pos h, if_pos (Or.inl h)]
    exact p_support hI (hr 0)
  · rw [if_neg (by omega), if_pos h, if_neg (by omega), if_pos h, if_neg (by omega)]
    exact p_number hI (hr 0) (hr 1) (hr 2)
  · rw [if_neg (by omega), if_neg (by omega), if_pos h, if_neg (by omega), if_neg (by omega), if_pos h, if_pos (Or.inr h)]
    exact p_prime hI (hr 0)
  · rw [if_neg (by omega), if_neg (by omega), if_neg (by omega), if_neg (by omega), if_neg (by omega), if_neg (by omega), if_neg (by omega)]
    exact p_sum hI (hr 0) (hr 1) (hr 2)
theorem pa_jc_mem {c : Int} : pa_jc c ∈ j_Jc := by unfold pa_jc; split <;> (try split) <;> (try split) <;> decide
theorem pa_jm_mem {c : Int} : pa_jm c ∈ j_Jm := by unfold pa_jm; split <;> (try split) <;> (try split) <;> decide
theorem pa_as_all {A : Nat → Bool} {n : Int} {tx : Nat → Int} {a b : Nat} {o : Nat} (ho : A o = true) : j_all A (.inr (.inr o) :: pa_as n tx a b) := by
  unfold pa_as
  split
  · exact j_cons ho (j_cons trivial j_nil)
  · exact j_cons ho (j_cons trivial (j_cons trivial (j_cons trivial j_nil)))
/-- a pair, its two sides apart -/
theorem j_pair {L : Nat} {m : z_M} {g : z_g} {jc jm : Nat} {as : List q_V} (hg : g.2.2.1.length ≤ 2) (hjc : jc ∈ j_Jc) (hjm : jm ∈ j_Jm) (hac : j_all j_Ac (.inr (.inr 0) :: as)) (ham : j_all j_Am (.inr (.inr 131) :: as)) (hp : z_pI (I L) jc jm as m g) : ∃ v m1 v' m2, q_w v = q_w v' ∧ I L m2 g ∧ (∀ a j, ¬ j_Wc a j = true → m1 a j = m a j) ∧ (∀ a j, ¬ j_Wm a j = true → m2 a j = m1 a j) ∧ (∀ (mX : z_M) (Q' : q_V → q_S → Prop), (∀ a j, j_Ec a j = true → mX a j = m a j) → Q' (.inl v) (z_st (j_glue j_Wc m1 mX) g) → z_C jc (.inr (.inr 0) :: as) (z_st mX g) Q') ∧ ∀ (mX : z_M) (Q' : q_V → q_S → Prop), (∀ a j, j_Em a j = true → mX a j = m1 a j) → Q' (.inl v') (z_st (j_glue j_Wm m2 mX) g) → z_C jm (.inr (.inr 131) :: as) (z_st mX g) Q' := by
  obtain ⟨r, mc, hq, f, rep⟩ := j_zC (T := j_Tg g) (m := m) (j_Hc hg) (j_OKc hg) hjc hac hp
  obtain ⟨v, m1, g1, e1, e2, -, -, h2⟩ := hq
  obtain ⟨q1, q2⟩ := j_st_inj e2.symm
  subst q1 q2 e1
  obtain ⟨r', mm, hq', f', rep'⟩ := j_zC (T := j_Tg g1) (m := m1) (j_Hm hg) (j_OKm hg) hjm ham h2
  obtain ⟨v', m2, g2, e1', e2', hw, hI2⟩ := hq'
  obtain ⟨q1, q2⟩ := j_st_inj e2'.symm
  subst q1 q2 e1'
  exact ⟨v, m1, v', m2, hw, hI2, f, f', rep, rep'⟩
