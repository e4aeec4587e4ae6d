/-! CONTRACTS of the class: numbers modulo p -/
theorem z_rw6 {L vp : Nat} {i : Int} (h1 : 0 ≤ i) (h2 : i < 6) : z_rw (q_rfz L vp) 6 i 6 := by
  have e : ∀ n : Nat, n < 6 → (q_rt.getD 6 []).getD n 1000 = 7 + n := by decide
  refine ⟨h1, h2, ?_, ?_⟩
  · show (if 6 = 125 ∧ i.toNat = 0 then vp else if 6 = 1001 ∧ i.toNat = 0 then L else (q_rt.getD 6 []).getD i.toNat 1000) = 7 + i.toNat
    rw [if_neg (by omega), if_neg (by omega)]
    exact e _ (by omega)
  · show 7 + i.toNat < 1000
    omega
theorem z_sp6 {t : List (Nat × Nat)} {i : Int} (h2 : i < 6) : z_sp (q_sh0 ++ t) (7 + i.toNat) 0 13 := by
  have e : ∀ n : Nat, n < 6 → q_sh0[7 + n]? = some (0, 13) := by decide
  have hl : q_sh0.length = 165 := rfl
  refine ⟨by omega, ?_⟩
  rw [List.getElem?_append_left (by omega)]
  exact e _ (by omega)
theorem z_rw20 {L vp : Nat} {i : Int} (h1 : 0 ≤ i) (h2 : i < 6) : z_rw (q_rfz L vp) 20 i 6 := by
  have e : ∀ n : Nat, n < 6 → (q_rt.getD 20 []).getD n 1000 = 21 + n := by decide
  refine ⟨h1, h2, ?_, ?_⟩
  · show (if 20 = 125 ∧ i.toNat = 0 then vp else if 20 = 1001 ∧ i.toNat = 0 then L else (q_rt.getD 20 []).getD i.toNat 1000) = 21 + i.toNat
    rw [if_neg (by omega), if_neg (by omega)]
    exact e _ (by omega)
  · show 21 + i.toNat < 1000
    omega
theorem z_sp20 {t : List (Nat × Nat)} {i : Int} (h2 : i < 6) : z_sp (q_sh0 ++ t) (21 + i.toNat) 0 13 := by
  have e : ∀ n : Nat, n < 6 → q_sh0[21 + n]? = some (0, 13) := by decide
  have hl : q_sh0.length = 165 := rfl
  refine ⟨by omega, ?_⟩
  rw [List.getElem?_append_left (by omega)]
  exact e _ (by omega)
theorem z_rw30 {L vp : Nat} {i : Int} (h1 : 0 ≤ i) (h2 : i < 31) : z_rw (q_rfz L vp) 30 i 31 := by
  have e : ∀ n : Nat, n < 31 → (q_rt.getD 30 []).getD n 1000 = 31 + n := by decide
  refine ⟨h1, h2, ?_, ?_⟩
  · show (if 30 = 125 ∧ i.toNat = 0 then vp else if 30 = 1001 ∧ i.toNat = 0 then L else (q_rt.getD 30 []).getD i.toNat 1000) = 31 + i.toNat
    rw [if_neg (by omega), if_neg (by omega)]
    exact e _ (by omega)
  · show 31 + i.toNat < 1000
    omega
theorem z_sp30 {t : List (Nat × Nat)} {i : Int} (h2 : i < 31) : z_sp (q_sh0 ++ t) (31 + i.toNat) 0 13 := by
  have e : ∀ n : Nat, n < 31 → q_sh0[31 + n]? = some (0, 13) := by decide
  have hl : q_sh0.length = 165 := rfl
  refine ⟨by omega, ?_⟩
  rw [List.getElem?_append_left (by omega)]
  exact e _ (by omega)
theorem z_rw76 {L vp : Nat} {i : Int} (h1 : 0 ≤ i) (h2 : i < 23) : z_rw (q_rfz L vp) 76 i 23 := by
  have e : ∀ n : Nat, n < 23 → (q_rt.getD 76 []).getD n 1000 = 77 + n := by decide
  refine ⟨h1, h2, ?_, ?_⟩
  · show (if 76 = 125 ∧ i.toNat = 0 then vp else if 76 = 1001 ∧ i.toNat = 0 then L else (q_rt.getD 76 []).getD i.toNat 1000) = 77 + i.toNat
    rw [if_neg (by omega), if_neg (by omega)]
    exact e _ (by omega)
  · show 77 + i.toNat < 1000
    omega
theorem z_sp76 {t : List (Nat × Nat)} {i : Int} (h2 : i < 23) : z_sp (q_sh0 ++ t) (77 + i.toNat) 0 23 := by
  have e : ∀ n : Nat, n < 23 → q_sh0[77 + n]? = some (0, 23) := by decide
  have hl : q_sh0.length = 165 := rfl
  refine ⟨by omega, ?_⟩
  rw [List.getElem?_append_left (by omega)]
  exact e _ (by omega)
theorem z_rw101 {L vp : Nat} {i : Int} (h1 : 0 ≤ i) (h2 : i < 6) : z_rw (q_rfz L vp) 101 i 6 := by
  have e : ∀ n : Nat, n < 6 → (q_rt.getD 101 []).getD n 1000 = 102 + n := by decide
  refine ⟨h1, h2, ?_, ?_⟩
  · show (if 101 = 125 ∧ i.toNat = 0 then vp else if 101 = 1001 ∧ i.toNat = 0 then L else (q_rt.getD 101 []).getD i.toNat 1000) = 102 + i.toNat
    rw [if_neg (by omega), if_neg (by omega)]
    exact e _ (by omega)
  · show 102 + i.toNat < 1000
    omega
theorem z_sp101 {t : List (Nat × Nat)} {i : Int} (h2 : i < 6) : z_sp (q_sh0 ++ t) (102 + i.toNat) 0 5 := by
  have e : ∀ n : Nat, n < 6 → q_sh0[102 + n]? = some (0, 5) := by decide
  have hl : q_sh0.length = 165 := rfl
  refine ⟨by omega, ?_⟩
  rw [List.getElem?_append_left (by omega)]
  exact e _ (by omega)
theorem z_rw115 {L vp : Nat} {i : Int} (h1 : 0 ≤ i) (h2 : i < 4) : z_rw (q_rfz L vp) 115 i 4 := by
  have e : ∀ n : Nat, n < 4 → (q_rt.getD 115 []).getD n 1000 = 116 + n := by decide
  refine ⟨h1, h2, ?_, ?_⟩
  · show (if 115 = 125 ∧ i.toNat = 0 then vp else if 115 = 1001 ∧ i.toNat = 0 then L else (q_rt.getD 115 []).getD i.toNat 1000) = 116 + i.toNat
    rw [if_neg (by omega), if_neg (by omega)]
    exact e _ (by omega)
  · show 116 + i.toNat < 1000
    omega
theorem z_sp115 {t : List (Nat × Nat)} {i : Int} (h2 : i < 4) : z_sp (q_sh0 ++ t) (116 + i.toNat) 1 20 := by
  have e : ∀ n : Nat, n < 4 → q_sh0[116 + n]? = some (1, 20) := by decide
  have hl : q_sh0.length = 165 := rfl
  refine ⟨by omega, ?_⟩
  rw [List.getElem?_append_left (by omega)]
  exact e _ (by omega)
/-- the tables of numbers modulo p -/
def t_F (m : z_M) (p : Int) : Prop := z_pr p ∧ m 29 0 = p ∧ (∀ x e : Nat, (x : Int) < p → e ≤ 12 → m (31 + x) e = (x : Int) ^ e % p) ∧ ∀ x : Nat, (x : Int) < p → m 62 x = z_inv p x
theorem c_mod' {m : z_M} {g : z_g} {Q : q_V → q_S → Prop} {p v : Int} (hp : z_pr p) (h : m 29 0 = p) (hv : z_ok v) (k : Q (.inl (v % p)) (z_st m g)) : z_C 52 [.inr (.inr 29), .inl v] (z_st m g) Q := by
  have := z_pr_le hp
  rw [← h] at k
  exact c_mod (by omega) (by omega) hv.1 hv.2 k
theorem c_product {m : z_M} {g : z_g} {Q : q_V → q_S → Prop} {p a b : Int} (hp : z_pr p) (h : m 29 0 = p) (hv : z_ok (a * b)) (k : Q (.inl (a * b % p)) (z_st m g)) : z_C 68 [.inr (.inr 29), .inl a, .inl b] (z_st m g) Q := by
  have := z_pr_le hp
  refine y_68 ⟨(by unfold z_ok2; omega), fun _ => c_floorMod hv.1 hv.2 (by omega) (by omega) (y_68_12 ?_), (fun h => absurd h (by omega))⟩
  rw [h]; exact k
theorem c_findOver {m : z_M} {g : z_g} {Q : q_V → q_S → Prop} {p : Int} {x : Nat} (hp : z_pr p) (h : m 29 0 = p) (hx : (x : Int) < p) (k : Q (.inl (z_inv p x)) (z_st m g)) : z_C 54 [.inr (.inr 29), .inl (x : Int)] (z_st m g) Q := by
  have hp5 := z_pr_le hp
  have loop : ∀ (d y : Nat), p.toNat - y = d → 1 ≤ y → (y : Int) ≤ p → (∀ z : Nat, 1 ≤ z → z < y → ¬ (x : Int) * z % p = 1) → z_T 54 2 [.inr (.inr 29), .inl (x : Int), .inl (y : Int)] [] (z_st m g) Q := by
    intro d
    induction d with
    | zero =>
      intro y hd h1 h2 hn
      refine y_54_2 ⟨(by unfold z_ok2; omega), fun _ => ?_, (fun h => absurd h (by omega))⟩
      have : z_inv p x = 0 := by
        by_cases hx0 : x = 0
        · subst hx0; exact z_inv_zero hp
        · obtain ⟨g1, g2⟩ := z_inv_one hp (x := x) (by omega) hx
          have g3 := z_inv_rng (x := x) hp
          obtain ⟨n, hn2⟩ := Int.eq_ofNat_of_zero_le g3.1
          exact absurd (by rw [← hn2]; exact g1) (hn n (by omega) (by omega))
      rw [this] at k; exact k
    | succ d ih =>
      intro y hd h1 h2 hn
      have hb : 0 ≤ (x : Int) * y ∧ (x : Int) * y ≤ 31 * 31 := ⟨Int.mul_nonneg (by omega) (by omega), Int.mul_le_mul (by omega) (by omega) (by omega) (by omega)⟩
      have hm := z_m0 (p := p) (a := (x : Int) * y) (by omega)
      refine y_54_2 ⟨(by unfold z_ok2; omega), (fun h => absurd h (by omega)), fun _ => c_mod' hp h (by unfold z_ok; omega) (y_54_11 ⟨(by unfold z_ok2; omega), fun hne => ?_, fun heq => ?_⟩)⟩
      · refine ih (y + 1) (by omega) (by omega) (by omega) fun z hz1 hz2 => ?_
        by_cases hzy : z = y
        · rw [hzy]; exact hne
        · exact hn z hz1 (by omega)
      · have hx0 : 0 < (x : Int) := by
          by_cases hx0 : x = 0
          · subst hx0
            rw [show ((0 : Nat) : Int) * (y : Int) = 0 from Int.zero_mul _] at heq
            exact absurd heq (by simp)
          · omega
        rw [← z_inv_uni hp hx0 hx (by omega) (by omega) heq] at k
        exact k
  exact y_54 (loop _ 1 rfl (by omega) (by omega) (fun z h1 h2 => by omega))
/-- made anew only if p is another -/
theorem c_fbecome {m : z_M} {g : z_g} {Q : q_V → q_S → Prop} {p : Int} (hp : z_pr p) (h0 : m 29 0 = 0 ∨ ∃ q, t_F m q) (kk : ∀ m', (∀ a j, (a < 29 ∨ 62 < a) → m' a j = m a j) → t_F m' p → Q q_dead (z_st m' g)) : z_C 51 [.inr (.inr 29), .inl p] (z_st m g) Q := by
  have hp5 := z_pr_le hp
  have hq : 0 ≤ m 29 0 ∧ m 29 0 ≤ 31 := by
    rcases h0 with h0 | ⟨q, h1, h2, -⟩
    · omega
    · have := z_pr_le h1
      omega
  by_cases hpq : p = m 29 0
  · refine y_51 ⟨(by unfold z_ok2; omega), fun h => absurd hpq h, fun _ => kk m (fun _ _ _ => rfl) ?_⟩
    rcases h0 with h0 | ⟨q, h1⟩
    · omega
    · obtain rfl : q = p := by rw [hpq]; exact h1.2.1.symm
      exact h1
  · refine y_51 ⟨(by unfold z_ok2; omega), fun _ => ?_, fun h => absurd h hpq⟩
    -- the state while row x is made: numbers 0 .. e less 1 of it stand
    let J : Nat → z_M → Prop := fun x m' => (∀ a j, (a < 29 ∨ 62 < a) → m' a j = m a j) ∧ m' 29 0 = p ∧ (∀ y e : Nat, y < x → e ≤ 12 → m' (31 + y) e = (y : Int) ^ e % p) ∧ ∀ y : Nat, y < x → m' 62 y = z_inv p y
    have inner : ∀ (x : Nat) (hx : (x : Int) < p) (out : ∀ m' (d : q_V), J (x + 1) m' → z_T 51 10 [.inr (.inr 29), .inl p, .inl ((x + 1 : Nat) : Int), d] [] (z_st m' g) Q) (d e : Nat) (m' : z_M), 13 - e = d → 1 ≤ e → e ≤ 13 → J x m' → (∀ i, i < e → m' (31 + x) i = (x : Int) ^ i % p) → z_T 51 28 [.inr (.inr 29), .inl p, .inl (x : Int), .inl (e : Int)] [] (z_st m' g) Q := by
      intro x hx out d
      induction d with
      | zero =>
        intro e m' hd h1 h2 hJ hr
        obtain ⟨j1, j2, j3, j4⟩ := hJ
        refine y_51_28 ⟨(by unfold z_ok2; omega), fun _ => c_findOver hp j2 hx (y_51_57 ⟨⟨by omega, by omega⟩, ?_⟩), (fun h => absurd h (by omega))⟩
        refine out _ _ ⟨?_, ?_, ?_, ?_⟩
        · intro a j ha
          unfold q_upd
          rw [if_neg (by omega)]
          exact j1 a j ha
        · exact j2
        · intro y i hy hi
          unfold q_upd
          rw [if_neg (by omega)]
          by_cases hyx : y = x
          · rw [hyx]; exact hr i (by omega)
          · exact j3 y i (by omega) hi
        · intro y hy
          unfold q_upd
          by_cases hyx : y = x
          · rw [if_pos ⟨rfl, by omega⟩, hyx]
          · rw [if_neg (by omega)]
            exact j4 y (by omega)
      | succ d ih =>
        intro e m' hd h1 h2 hJ hr
        obtain ⟨j1, j2, j3, j4⟩ := hJ
        have hre := hr (e - 1) (by omega)
        have hm := z_m0 (p := p) (a := (x : Int) ^ (e - 1)) (by omega)
        have hb : 0 ≤ ((x : Int) ^ (e - 1) % p) * x ∧ ((x : Int) ^ (e - 1) % p) * x ≤ 31 * 31 := ⟨Int.mul_nonneg (by omega) (by omega), Int.mul_le_mul (by omega) (by omega) (by omega) (by omega)⟩
        refine y_51_28 ⟨(by unfold z_ok2; omega), (fun h => absurd h (by omega)), fun _ => ⟨z_rw30 (by omega) (by omega), z_rw30 (by omega) (by omega), z_sp30 (by omega), ⟨by omega, by omega⟩, ?_⟩⟩
        rw [show ((x : Int)).toNat = x by omega, show ((e : Int) - 1).toNat = e - 1 by omega, hre]
        refine c_mod' hp j2 (by unfold z_ok; omega) (y_51_48 ⟨z_sp30 (i := (x : Int)) (by omega), ⟨by omega, by omega⟩, ?_⟩)
        refine ih (e + 1) _ (by omega) (by omega) (by omega) ⟨?_, ?_, ?_, ?_⟩ ?_
        · intro a j ha
          unfold q_upd
          rw [if_neg (by omega)]
          exact j1 a j ha
        · show q_upd m' (31 + x) (e : Int).toNat _ 29 0 = p
          unfold q_upd
          rw [if_neg (by omega)]
          exact j2
        · intro y i hy hi
          unfold q_upd
          rw [if_neg (by omega)]
          exact j3 y i hy hi
        · intro y hy
          unfold q_upd
          rw [if_neg (by omega)]
          exact j4 y hy
        · intro i hi
          unfold q_upd
          by_cases hie : i = e
          · rw [if_pos ⟨rfl, by omega⟩, hie]
            obtain ⟨e', rfl⟩ : ∃ e', e = e' + 1 := ⟨e - 1, by omega⟩
            rw [Int.pow_succ, show e' + 1 - 1 = e' by omega]
            exact z_mmul z_mm rfl
          · rw [if_neg (by omega)]
            exact hr i (by omega)
    have outer : ∀ (d x : Nat) (m' : z_M) (d3 : q_V), p.toNat - x = d → (x : Int) ≤ p → J x m' → z_T 51 10 [.inr (.inr 29), .inl p, .inl (x : Int), d3] [] (z_st m' g) Q := by
      intro d
      induction d with
      | zero =>
        intro x m' d3 hd hx hJ
        obtain ⟨j1, j2, j3, j4⟩ := hJ
        refine y_51_10 ⟨by rw [j2]; exact (by unfold z_ok2; omega), fun _ => kk m' j1 ⟨hp, j2, fun y e hy he => j3 y e (by omega) he, fun y hy => j4 y (by omega)⟩, (fun h => absurd h (by omega))⟩
      | succ d ih =>
        intro x m' d3 hd hx hJ
        obtain ⟨j1, j2, j3, j4⟩ := hJ
        refine y_51_10 ⟨by rw [j2]; exact (by unfold z_ok2; omega), (fun h => absurd h (by omega)), fun _ => ⟨(by unfold z_ok2; omega), (fun h => absurd h (by omega)), fun _ => ⟨z_rw30 (by omega) (by omega), z_sp30 (by omega), ⟨by omega, by omega⟩, ?_⟩⟩⟩
        rw [show ((x : Int)).toNat = x by omega]
        refine inner x (by omega) (fun m' d hJ => ih (x + 1) m' d (by omega) (by omega) hJ) 12 1 _ rfl (by omega) (by omega) ⟨?_, ?_, ?_, ?_⟩ ?_
        · intro a j ha
          unfold q_upd
          rw [if_neg (by omega)]
          exact j1 a j ha
        · show q_upd m' (31 + x) 0 _ 29 0 = p
          unfold q_upd
          rw [if_neg (by omega)]
          exact j2
        · intro y i hy hi
          unfold q_upd
          rw [if_neg (by omega)]
          exact j3 y i hy hi
        · intro y hy
          unfold q_upd
          rw [if_neg (by omega)]
          exact j4 y hy
        · intro i hi
          obtain rfl : i = 0 := by omega
          unfold q_upd
          rw [if_pos ⟨rfl, rfl⟩, Int.pow_zero]
          exact (z_mi (by omega) (by omega)).symm
    refine outer _ 0 _ _ rfl (by omega) ⟨?_, rfl, fun y e hy => by omega, fun y hy => by omega⟩
    intro a j ha
    unfold q_upd
    rw [if_neg (by omega)]
theorem c_power {m : z_M} {g : z_g} {Q : q_V → q_S → Prop} {p x e : Int} (h : t_F m p) (hx0 : 0 ≤ x) (hx : x < p) (he0 : 0 ≤ e) (he : e ≤ 12) (k : Q (.inl (x ^ e.toNat % p)) (z_st m g)) : z_C 101 [.inr (.inr 29), .inl x, .inl e] (z_st m g) Q := by
  have hp5 := z_pr_le h.1
  refine y_101 ⟨(by unfold z_ok; omega), (fun h => absurd h (by omega)), fun _ => ⟨(by unfold z_ok2; omega), (fun h => absurd h (by omega)), fun _ => ⟨(by unfold z_ok; omega), (fun h => absurd h (by omega)), fun _ => ⟨(by unfold z_ok2; omega), fun _ => ⟨z_rw30 (by omega) (by omega), z_sp30 (by omega), ⟨by omega, by omega⟩, ?_⟩, (fun h => absurd h (by omega))⟩⟩⟩⟩
  rw [h.2.2.1 x.toNat e.toNat (by omega) (by omega), Int.toNat_of_nonneg hx0]
  exact k
theorem c_powerOfAny {m : z_M} {g : z_g} {Q : q_V → q_S → Prop} {p v e : Int} (h : t_F m p) (hv : z_ok v) (he0 : 0 ≤ e) (he : e ≤ 12) (k : Q (.inl (v ^ e.toNat % p)) (z_st m g)) : z_C 130 [.inr (.inr 29), .inl v, .inl e] (z_st m g) Q := by
  have hp5 := z_pr_le h.1
  have hm := z_m0 (p := p) (a := v) (by omega)
  refine y_130 (c_mod' h.1 h.2.1 hv (y_130_4 (c_power h hm.1 hm.2 he0 he (y_130_6 ?_))))
  have e1 : ∀ n : Nat, (v % p) ^ n % p = v ^ n % p := by
    intro n
    induction n with
    | zero => rw [Int.pow_zero, Int.pow_zero]
    | succ n ih => rw [Int.pow_succ, Int.pow_succ]; exact z_mmul ih z_mm
  rw [e1]; exact k
theorem c_over {m : z_M} {g : z_g} {Q : q_V → q_S → Prop} {p x : Int} (h : t_F m p) (hx0 : 0 ≤ x) (hx : x < p) (k : Q (.inl (z_inv p x)) (z_st m g)) : z_C 72 [.inr (.inr 29), .inl x] (z_st m g) Q := by
  have hp5 := z_pr_le h.1
  refine y_72 ⟨(by unfold z_ok; omega), (fun h => absurd h (by omega)), fun _ => ⟨(by unfold z_ok2; omega), fun _ => ⟨⟨by omega, by omega⟩, ?_⟩, (fun h => absurd h (by omega))⟩⟩
  rw [h.2.2.2 x.toNat (by omega), Int.toNat_of_nonneg hx0]
  exact k
theorem c_powersOf {m : z_M} {g : z_g} {Q : q_V → q_S → Prop} {p x : Int} (h : z_pr p) (hx0 : 0 ≤ x) (hx : x < p) (k : Q (.inr (.inr (31 + x.toNat))) (z_st m g)) : z_C 61 [.inr (.inr 29), .inl x] (z_st m g) Q := by
  have hp5 := z_pr_le h
  exact y_61 ⟨(by unfold z_ok; omega), (fun h => absurd h (by omega)), fun _ => ⟨(by unfold z_ok2; omega), fun _ => ⟨z_rw30 (by omega) (by omega), by omega, k⟩, (fun h => absurd h (by omega))⟩⟩
