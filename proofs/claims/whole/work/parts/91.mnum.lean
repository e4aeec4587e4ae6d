/-! CONTRACTS of the model: numbers, values, slopes, orders -/
/-- a sum of the model: what it is made of -/
def n_S (m : z_M) (s p : Int) (S : Nat) (kd fg : Int) (T : Nat → Int) : Prop := n_P m p ∧ (0 ≤ s ∧ s < 6) ∧ (0 ≤ m 134 s.toNat ∧ m 134 s.toNat < 6) ∧ m 133 (m 134 s.toNat).toNat = (S : Int) ∧ x_V S ∧ m 135 s.toNat = kd ∧ (0 ≤ kd ∧ kd ≤ 5) ∧ m 136 s.toNat = fg ∧ (0 ≤ fg ∧ fg ≤ 9) ∧ ∀ e : Nat, e ≤ 12 → m 137 (13 * s + e).toNat = T e ∧ 0 ≤ T e ∧ T e ≤ 127
/-- places 131 .. 137 but fields that hold nothing for long -/
def n_fr (m m' : z_M) : Prop := m' 131 1 = m 131 1 ∧ ∀ a j, 132 ≤ a → a ≤ 137 → m' a j = m a j
theorem n_P_fr {m m' : z_M} {p : Int} (h : n_P m p) (f : n_fr m m') : n_P m' p := by
  obtain ⟨h1, h2, h3, h4⟩ := h
  exact ⟨h1, by rw [f.1]; exact h2, by rw [f.1]; exact h3, by rw [f.1, f.2 132 _ (by omega) (by omega)]; exact h4⟩
theorem n_S_fr {m m' : z_M} {s p : Int} {S : Nat} {kd fg : Int} {T : Nat → Int} (h : n_S m s p S kd fg T) (f : n_fr m m') : n_S m' s p S kd fg T := by
  obtain ⟨h1, h2, h3, h4, h5, h6, h7, h8, h9, h10⟩ := h
  refine ⟨n_P_fr h1 f, h2, ?_, ?_, h5, ?_, h7, ?_, h9, fun e he => ?_⟩
  · rw [f.2 134 _ (by omega) (by omega)]; exact h3
  · rw [f.2 134 _ (by omega) (by omega), f.2 133 _ (by omega) (by omega)]; exact h4
  · rw [f.2 135 _ (by omega) (by omega)]; exact h6
  · rw [f.2 136 _ (by omega) (by omega)]; exact h8
  · rw [f.2 137 _ (by omega) (by omega)]; exact h10 e he
theorem n_setOf {m : z_M} {g : z_g} {Q : q_V → q_S → Prop} {s p : Int} {S : Nat} {kd fg : Int} {T : Nat → Int} (h : n_S m s p S kd fg T) (kk : Q (.inl (S : Int)) (z_st m g)) : z_C 210 [.inr (.inr 131), .inl s] (z_st m g) Q := by
  obtain ⟨h1, h2, h3, h4, h5, -⟩ := h
  rw [← h4] at kk
  exact y_210 ⟨⟨by omega, by omega⟩, ⟨by omega, by omega⟩, kk⟩
theorem n_numberOf {m : z_M} {g : z_g} {Q : q_V → q_S → Prop} {s p e : Int} {S : Nat} {kd fg : Int} {T : Nat → Int} (h : n_S m s p S kd fg T) (h0 : 0 ≤ e) (h1 : e < 1000) (kk : Q (.inl (n_at p S kd fg T e.toNat)) (z_st m g)) : z_C 214 [.inr (.inr 131), .inl s, .inl e] (z_st m g) Q := by
  have hS := h
  obtain ⟨a1, a2, a3, a4, a5, a6, a7, a8, a9, a10⟩ := h
  have hS2 : S < 2147483648 := by have := a5.1; omega
  have hm := a5.2
  refine y_214 (n_setOf hS (y_214_3 (n_has hS2 (by unfold z_ok; omega) (fun _ he hb => y_214_5 ⟨(by unfold z_ok; omega), fun _ => ?_, fun h => absurd h (by decide)⟩) (fun hn => y_214_5 ⟨(by unfold z_ok; omega), fun h => absurd rfl h, fun _ => ?_⟩))))
  · obtain ⟨b1, b2, b3⟩ := a10 e.toNat (by omega)
    have hr := x_raw_ok (S := S) (kd := kd) a9 (e := e) (by omega) (v := T e.toNat) ⟨b2, b3⟩
    have hl := x_at_le (S := S) (k := x_many S - 1) (by omega)
    have e1 : m 137 (13 * s + e).toNat = T e.toNat := by rw [← b1, Int.toNat_of_nonneg h0]
    unfold n_at at kk
    rw [if_pos ⟨by omega, hb⟩, Int.toNat_of_nonneg h0] at kk
    rw [e1, a6, a8]
    unfold x_raw at hr kk
    have tail : kd = 4 → ∀ z : Int, z_C 210 [.inr (.inr 131), .inl s] (z_st m g) (fun v S_1 => z_T 214 64 [.inr (.inr 131), .inl s, .inl e, .inl (T e.toNat), .inl z, .inl (T e.toNat * (fg + (1 : Int)))] (q_push v [.inl e]) S_1 Q) := fun h4 z => by
      rw [if_neg (by omega), if_neg (by omega), if_neg (by omega), if_pos h4] at kk hr
      refine n_setOf hS (y_214_64 (n_last hS2 (by omega) (y_214_65 ⟨(by unfold z_ok2; omega), fun hne => ?_, fun heq => ?_⟩)))
      · rw [if_neg hne] at kk hr
        exact n_rest a1 (by unfold z_ok; omega) (y_214_71 kk)
      · rw [if_pos heq] at kk
        have := z_pr_le a1.1
        rw [z_mi (by omega) (by omega)] at kk
        exact y_214_71 kk
    refine ⟨⟨by omega, by omega⟩, (by unfold z_dv; omega), (by unfold z_ok2; omega), fun ho => ⟨⟨by omega, by omega⟩, ⟨by omega, by omega⟩, (by unfold z_ok; omega), fun h => ?_, fun h1 => ⟨fun h => ?_, fun h2 => ⟨fun h => ⟨⟨by omega, by omega⟩, ?_⟩, fun h3 => ⟨fun h => tail h _, fun h4 => ⟨fun h => ?_, fun h5 => ?_⟩⟩⟩⟩⟩, fun ho => ⟨⟨by omega, by omega⟩, ⟨by omega, by omega⟩, (by unfold z_ok; omega), fun h => ?_, fun h1 => ⟨fun h => ?_, fun h2 => ⟨fun h => ⟨⟨by omega, by omega⟩, ?_⟩, fun h3 => ⟨fun h => tail h _, fun h4 => ⟨fun h => ?_, fun h5 => ?_⟩⟩⟩⟩⟩⟩
    · rw [if_pos h, if_neg ho] at kk hr; exact n_rest a1 (by unfold z_ok; omega) (y_214_44 kk)
    · rw [if_neg h1, if_pos h] at kk hr; exact n_rest a1 (by unfold z_ok; omega) (y_214_48 kk)
    · rw [if_neg h1, if_neg h2, if_pos h, if_neg ho] at kk hr; exact n_rest a1 (by unfold z_ok; omega) (y_214_59 kk)
    · rw [if_neg h1, if_neg h2, if_neg h3, if_neg h4, if_pos h] at kk hr; exact n_rest a1 (by unfold z_ok; omega) (y_214_77 kk)
    · rw [if_neg h1, if_neg h2, if_neg h3, if_neg h4, if_neg h5] at kk hr; exact n_rest a1 (by unfold z_ok; omega) (y_214_81 kk)
    · rw [if_pos h, if_pos ho] at kk hr; exact n_rest a1 (by unfold z_ok; omega) (y_214_44 kk)
    · rw [if_neg h1, if_pos h] at kk hr; exact n_rest a1 (by unfold z_ok; omega) (y_214_48 kk)
    · rw [if_neg h1, if_neg h2, if_pos h, if_pos ho] at kk hr; exact n_rest a1 (by unfold z_ok; omega) (y_214_59 kk)
    · rw [if_neg h1, if_neg h2, if_neg h3, if_neg h4, if_pos h] at kk hr; exact n_rest a1 (by unfold z_ok; omega) (y_214_77 kk)
    · rw [if_neg h1, if_neg h2, if_neg h3, if_neg h4, if_neg h5] at kk hr; exact n_rest a1 (by unfold z_ok; omega) (y_214_81 kk)
  · unfold n_at at kk
    rw [if_neg (fun hh => hn ⟨h0, by omega, hh.2⟩)] at kk
    exact kk
theorem n_fr_upd {m m' : z_M} {a j : Nat} {v : Int} (f : n_fr m m') (ha : 138 ≤ a) : n_fr m (q_upd m' a j v) := by
  refine ⟨?_, fun b i h1 h2 => ?_⟩
  · unfold q_upd
    rw [if_neg (by omega)]
    exact f.1
  · unfold q_upd
    rw [if_neg (by omega)]
    exact f.2 b i h1 h2
theorem n_fr_refl {m : z_M} : n_fr m m := ⟨rfl, fun _ _ _ _ => rfl⟩
theorem n_looks {m : z_M} {g : z_g} {Q : q_V → q_S → Prop} {s p : Int} {S : Nat} {kd fg : Int} {T : Nat → Int} (h : n_S m s p S kd fg T) (kk : ∀ m', (∀ a j, ¬ a = 138 → m' a j = m a j) → t_R m' 138 (n_at p S kd fg T) → Q q_dead (z_st m' g)) : z_C 213 [.inr (.inr 131), .inl s] (z_st m g) Q := by
  have loop : ∀ (d e : Nat) (ei : Int) (m' : z_M), 13 - e = d → ei = (e : Int) → e ≤ 13 → (∀ a j, ¬ a = 138 → m' a j = m a j) → (∀ j, j < e → m' 138 j = n_at p S kd fg T j) → z_T 213 2 [.inr (.inr 131), .inl s, .inl ei] [] (z_st m' g) Q := by
    intro d
    induction d with
    | zero =>
      intro e ei m' hd he h1 f1 f2
      exact y_213_2 ⟨(by unfold z_ok2; omega), fun _ => kk m' f1 fun j hj => f2 j (by omega), (fun h => absurd h (by omega))⟩
    | succ d ih =>
      intro e ei m' hd he h1 f1 f2
      have hfr : n_fr m m' := ⟨f1 131 1 (by omega), fun a j h2 h3 => f1 a j (by omega)⟩
      refine y_213_2 ⟨(by unfold z_ok2; omega), (fun h => absurd h (by omega)), fun _ => n_numberOf (n_S_fr h hfr) (by omega) (by omega) (y_213_12 ⟨⟨by omega, by omega⟩, ?_⟩)⟩
      rw [show ei.toNat = e by omega]
      refine ih (e + 1) _ _ (by omega) (by omega) (by omega) ?_ ?_
      · intro a j ha
        unfold q_upd
        rw [if_neg (by omega)]
        exact f1 a j ha
      · intro j hj
        unfold q_upd
        by_cases hje : j = e
        · rw [if_pos ⟨rfl, hje⟩, hje]
        · rw [if_neg (by omega)]
          exact f2 j (by omega)
  exact y_213 (loop 13 0 0 m rfl rfl (by omega) (fun _ _ _ => rfl) (fun j hj => by omega))
theorem n_valueAt {m : z_M} {g : z_g} {Q : q_V → q_S → Prop} {p x : Int} {N : Nat → Int} (h : n_P m p) (hR : t_R m 138 N) (hN : x_R p N) (h0 : 0 ≤ x) (h1 : x < p) (kk : Q (.inl (v_at p N x)) (z_st m g)) : z_C 230 [.inr (.inr 131), .inl x] (z_st m g) Q := by
  have hp5 := z_pr_le h.1
  have loop : ∀ (n : Nat) (i v : Int), i = (n : Int) - 1 → n ≤ 13 → v = x_h N x (13 - n) n % p → z_T 230 4 [.inr (.inr 131), .inl x, .inl v, .inl i] [] (z_st m g) Q := by
    intro n
    induction n with
    | zero =>
      intro i v hi hn hv
      rw [hv]
      exact y_230_4 ⟨(by unfold z_ok; omega), fun _ => kk, (fun h => absurd h (by omega))⟩
    | succ n ih =>
      intro i v hi hn hv
      have b1 := hN n (by omega)
      have b2 : 0 ≤ v ∧ v < p := by rw [hv]; exact z_m0 (by omega)
      have b3 : 0 ≤ v * x ∧ v * x ≤ 31 * 31 := ⟨Int.mul_nonneg (by omega) (by omega), Int.mul_le_mul (by omega) (by omega) (by omega) (by omega)⟩
      refine y_230_4 ⟨(by unfold z_ok; omega), (fun h => absurd h (by omega)), fun _ => ⟨⟨by omega, by omega⟩, n_p h (y_230_16 ?_)⟩⟩
      rw [show i.toNat = n by omega, hR n (by omega)]
      refine ⟨(by unfold z_dv; omega), ih _ _ (by omega) (by omega) ?_⟩
      rw [hv, x_hstep N x (13 - (n + 1)) n, show 13 - (n + 1) + 1 = 13 - n by omega]
  exact y_230 (loop 13 12 0 (by decide) (by decide) (by simp [x_h]))
theorem n_slopeAt {m : z_M} {g : z_g} {Q : q_V → q_S → Prop} {p x : Int} {N : Nat → Int} (h : n_P m p) (hR : t_R m 138 N) (hN : x_R p N) (h0 : 0 ≤ x) (h1 : x < p) (kk : Q (.inl (s_at p N x)) (z_st m g)) : z_C 231 [.inr (.inr 131), .inl x] (z_st m g) Q := by
  have hp5 := z_pr_le h.1
  have loop : ∀ (n : Nat) (i v : Int), i = (n : Int) → n ≤ 12 → v = x_h (fun e => N (e + 1) * ((e : Int) + 1)) x (12 - n) n % p → z_T 231 4 [.inr (.inr 131), .inl x, .inl v, .inl i] [] (z_st m g) Q := by
    intro n
    induction n with
    | zero =>
      intro i v hi hn hv
      rw [hv]
      exact y_231_4 ⟨(by unfold z_ok; omega), fun _ => kk, (fun h => absurd h (by omega))⟩
    | succ n ih =>
      intro i v hi hn hv
      have b1 := hN (n + 1) (by omega)
      have b2 : 0 ≤ v ∧ v < p := by rw [hv]; exact z_m0 (by omega)
      have b3 : 0 ≤ v * x ∧ v * x ≤ 31 * 31 := ⟨Int.mul_nonneg (by omega) (by omega), Int.mul_le_mul (by omega) (by omega) (by omega) (by omega)⟩
      have b4 : 0 ≤ N (n + 1) * i ∧ N (n + 1) * i ≤ 31 * 12 := ⟨Int.mul_nonneg (by omega) (by omega), Int.mul_le_mul (by omega) (by omega) (by omega) (by omega)⟩
      refine y_231_4 ⟨(by unfold z_ok; omega), (fun h => absurd h (by omega)), fun _ => ⟨⟨by omega, by omega⟩, n_p h (y_231_18 ?_)⟩⟩
      rw [show i.toNat = n + 1 by omega, hR (n + 1) (by omega)]
      refine ⟨(by unfold z_dv; omega), ih _ _ (by omega) (by omega) ?_⟩
      have := x_hstep (p := p) (fun e => N (e + 1) * ((e : Int) + 1)) x (12 - (n + 1)) n
      rw [show 12 - (n + 1) + 1 = 12 - n by omega] at this
      rw [← this, hv, show i = (n : Int) + 1 by omega]
  exact y_231 (loop 12 12 0 (by decide) (by decide) (by simp [x_h]))
theorem n_isDouble {m : z_M} {g : z_g} {Q : q_V → q_S → Prop} {p : Int} {N : Nat → Int} (h : n_P m p) (hR : t_R m 138 N) (hN : x_R p N) (k1 : x_dbl p N → Q (.inl 1) (z_st m g)) (k0 : ¬ x_dbl p N → Q (.inl 0) (z_st m g)) : z_C 260 [.inr (.inr 131)] (z_st m g) Q := by
  have hp5 := z_pr_le h.1
  have loop : ∀ (d x : Nat) (xi : Int), p.toNat - x = d → xi = (x : Int) → 1 ≤ x → (x : Int) ≤ p → (∀ y : Nat, 1 ≤ y → y < x → ¬ (v_at p N y = 0 ∧ s_at p N y = 0)) → z_T 260 4 [.inr (.inr 131), .inl 0, .inl xi] [] (z_st m g) Q := by
    intro d
    induction d with
    | zero =>
      intro x xi hd he h1 h2 hn
      refine y_260_4 (n_p h (y_260_7 ⟨(by unfold z_ok2; omega), fun _ => ⟨Or.inl rfl, k0 ?_⟩, (fun h => absurd h (by omega))⟩))
      rintro ⟨y, y1, y2, y3⟩
      exact hn y y1 (by omega) y3
    | succ d ih =>
      intro x xi hd he h1 h2 hn
      have a1 := v_at_rng (N := N) (x := xi) h.1
      have a2 := s_at_rng (N := N) (x := xi) h.1
      have next : ¬ (v_at p N x = 0 ∧ s_at p N x = 0) → z_T 260 4 [.inr (.inr 131), .inl 0, .inl (xi + (1 : Int))] [] (z_st m g) Q := fun hh => by
        refine ih (x + 1) _ (by omega) (by omega) (by omega) (by omega) fun y y1 y2 => ?_
        by_cases hyx : y = x
        · rw [hyx]; exact hh
        · exact hn y y1 (by omega)
      refine y_260_4 (n_p h (y_260_7 ⟨(by unfold z_ok2; omega), (fun h => absurd h (by omega)), fun _ => ⟨(by unfold z_ok; omega), fun h => absurd rfl h, fun _ => n_valueAt h hR hN (by omega) (by omega) (y_260_13 ⟨(by unfold z_ok; omega), fun hv => next (fun e => hv (by rw [he]; exact e.1)), fun hv => n_slopeAt h hR hN (by omega) (by omega) (y_260_17 ⟨(by unfold z_ok; omega), fun hs => next (fun e => hs (by rw [he]; exact e.2)), fun hs => ?_⟩)⟩)⟩⟩))
      have hd : x_dbl p N := ⟨x, h1, by omega, by rw [← he]; exact ⟨hv, hs⟩⟩
      exact y_260_4 (n_p h (y_260_7 ⟨(by unfold z_ok2; omega), fun _ => ⟨Or.inr rfl, k1 hd⟩, fun _ => ⟨(by unfold z_ok; omega), fun _ => ⟨Or.inr rfl, k1 hd⟩, fun h => absurd h (by decide)⟩⟩))
  exact y_260 (loop _ 1 1 rfl rfl (by omega) (by omega) (fun y h1 h2 => by omega))
theorem n_notNoughts {m : z_M} {g : z_g} {Q : q_V → q_S → Prop} {p : Int} {N : Nat → Int} (hp : z_pr p) (hR : t_R m 138 N) (hN : x_R p N) (kk : Q (.inl (r_notZero N)) (z_st m g)) : z_C 221 [.inr (.inr 131)] (z_st m g) Q := by
  have hp5 := z_pr_le hp
  have loop : ∀ (d e : Nat) (ei : Int), 13 - e = d → ei = (e : Int) → e ≤ 13 → z_T 221 4 [.inr (.inr 131), .inl (z_sum (fun e => if N e = 0 then 0 else 1) e), .inl ei] [] (z_st m g) Q := by
    intro d
    induction d with
    | zero =>
      intro e ei hd he h1
      obtain rfl : e = 13 := by omega
      exact y_221_4 ⟨(by unfold z_ok2; omega), fun _ => kk, (fun h => absurd h (by omega))⟩
    | succ d ih =>
      intro e ei hd he h1
      have b1 := hN e (by omega)
      have ih := ih (e + 1) (ei + 1) (by omega) (by omega) (by omega)
      have e4 : z_sum (fun e => if N e = 0 then 0 else 1) (e + 1) = z_sum (fun e => if N e = 0 then 0 else 1) e + (if N e = 0 then 0 else 1) := rfl
      rw [e4] at ih
      refine y_221_4 ⟨(by unfold z_ok2; omega), (fun h => absurd h (by omega)), fun _ => ⟨⟨by omega, by omega⟩, ?_⟩⟩
      rw [show ei.toNat = e by omega, hR e (by omega)]
      refine ⟨(by unfold z_ok; omega), fun h0 => ?_, fun h0 => ?_⟩
      · rw [if_pos h0] at ih; exact ih
      · rw [if_neg h0] at ih; exact ih
  exact y_221 (loop 13 0 0 rfl rfl (by omega))
theorem n_isNothing {m : z_M} {g : z_g} {Q : q_V → q_S → Prop} {p : Int} {N : Nat → Int} (hp : z_pr p) (hR : t_R m 138 N) (hN : x_R p N) (k1 : x_top N 13 < 0 → Q (.inl 1) (z_st m g)) (k0 : 0 ≤ x_top N 13 → Q (.inl 0) (z_st m g)) : z_C 219 [.inr (.inr 131)] (z_st m g) Q := by
  have hp5 := z_pr_le hp
  have loop : ∀ (d e : Nat) (ei is : Int), 13 - e = d → ei = (e : Int) → e ≤ 13 → ((is = 1 ∧ x_top N e < 0) ∨ (is = 0 ∧ 0 ≤ x_top N e)) → z_T 219 4 [.inr (.inr 131), .inl is, .inl ei] [] (z_st m g) Q := by
    intro d
    induction d with
    | zero =>
      intro e ei is hd he h1 hh
      obtain rfl : e = 13 := by omega
      refine y_219_4 ⟨(by unfold z_ok2; omega), fun _ => ⟨by omega, ?_⟩, (fun h => absurd h (by omega))⟩
      rcases hh with ⟨rfl, h⟩ | ⟨rfl, h⟩
      · exact k1 h
      · exact k0 h
    | succ d ih =>
      intro e ei is hd he h1 hh
      have b1 := hN e (by omega)
      have ht := x_top_rng N e
      have ih := fun is => ih (e + 1) (ei + 1) is (by omega) (by omega) (by omega)
      unfold x_top at ih
      refine y_219_4 ⟨(by unfold z_ok2; omega), (fun h => absurd h (by omega)), fun _ => ⟨⟨by omega, by omega⟩, ?_⟩⟩
      rw [show ei.toNat = e by omega, hR e (by omega)]
      refine ⟨(by unfold z_ok; omega), fun h0 => ?_, fun h0 => ?_⟩
      · refine ih _ (Or.inr ⟨?_, by rw [if_neg h0]; omega⟩)
        rcases hh with ⟨rfl, h⟩ | ⟨rfl, h⟩ <;> decide
      · rw [if_pos h0] at ih
        refine ih _ ?_
        rcases hh with ⟨rfl, h⟩ | ⟨rfl, h⟩
        · exact Or.inl ⟨by decide, h⟩
        · exact Or.inr ⟨by decide, h⟩
  exact y_219 (loop 13 0 0 1 rfl rfl (by omega) (Or.inl ⟨rfl, by simp [x_top]⟩))
theorem n_takesOut {m : z_M} {g : z_g} {Q : q_V → q_S → Prop} {p x : Int} {f : Nat → Int} (h : n_P m p) (hR : t_R m 139 f) (hf : x_R p f) (h0 : 0 ≤ x) (h1 : x < p) (k1 : x_h f x 13 0 % p = 0 → ∀ m', (∀ a j, ¬ a = 139 → m' a j = m a j) → t_R m' 139 (x_q p x f) → Q (.inl 1) (z_st m' g)) (k0 : ¬ x_h f x 13 0 % p = 0 → Q (.inl 0) (z_st m g)) : z_C 220 [.inr (.inr 131), .inl x] (z_st m g) Q := by
  have hp5 := z_pr_le h.1
  have loop2 : ∀ (n : Nat) (i c : Int) (m' : z_M) (v : q_V), x_h f x 13 0 % p = 0 → i = (n : Int) - 1 → n ≤ 13 → (∀ a j, ¬ a = 139 → m' a j = m a j) → (∀ j, j < n → m' 139 j = f j) → (∀ j, n ≤ j → j < 13 → m' 139 j = x_q p x f j) → c = x_h f x (13 - n) n % p → z_T 220 26 [.inr (.inr 131), .inl x, .inl c, .inl i, v] [] (z_st m' g) Q := by
    intro n
    induction n with
    | zero =>
      intro i c m' v hz hi hn f1 f2 f3 hc
      exact y_220_26 ⟨(by unfold z_ok; omega), fun _ => k1 hz m' f1 (fun j hj => f3 j (by omega) hj), (fun h => absurd h (by omega))⟩
    | succ n ih =>
      intro i c m' v hz hi hn f1 f2 f3 hc
      have h2 := hf n (by omega)
      have h3 := f2 n (by omega)
      have h4 : 0 ≤ c ∧ c < p := by rw [hc]; exact z_m0 (by omega)
      have h5 : 0 ≤ c * x ∧ c * x ≤ 31 * 31 := ⟨Int.mul_nonneg (by omega) (by omega), Int.mul_le_mul (by omega) (by omega) (by omega) (by omega)⟩
      refine y_220_26 ⟨(by unfold z_ok; omega), (fun h => absurd h (by omega)), fun _ => ⟨⟨by omega, by omega⟩, ⟨by omega, by omega⟩, ?_⟩⟩
      rw [show i.toNat = n by omega, h3]
      have hP : n_P (q_upd m' 139 n c) p := n_P_fr h (n_fr_upd ⟨f1 131 1 (by omega), fun a j _ _ => f1 a j (by omega)⟩ (by omega))
      refine n_p hP (y_220_45 ⟨(by unfold z_dv; omega), ?_⟩)
      refine ih _ _ _ _ hz (by omega) (by omega) ?_ ?_ ?_ ?_
      · intro a j ha
        unfold q_upd
        rw [if_neg (by omega)]
        exact f1 a j ha
      · intro j hj
        unfold q_upd
        rw [if_neg (by omega)]
        exact f2 j (by omega)
      · intro j hj1 hj2
        unfold q_upd
        by_cases hjn : j = n
        · rw [if_pos ⟨rfl, hjn⟩, hc, hjn]
          show _ = x_h f x (12 - n) (n + 1) % p
          rw [show 13 - (n + 1) = 12 - n by omega]
        · rw [if_neg (by omega)]
          exact f3 j (by omega) hj2
      · rw [hc, x_hstep f x (13 - (n + 1)) n, show 13 - (n + 1) + 1 = 13 - n by omega]
  have loop : ∀ (n : Nat) (i c : Int), i = (n : Int) - 1 → n ≤ 13 → c = x_h f x (13 - n) n % p → z_T 220 4 [.inr (.inr 131), .inl x, .inl c, .inl i, q_dead] [] (z_st m g) Q := by
    intro n
    induction n with
    | zero =>
      intro i c hi hn hc
      have h4 : 0 ≤ c ∧ c < p := by rw [hc]; exact z_m0 (by omega)
      refine y_220_4 ⟨(by unfold z_ok; omega), fun _ => ⟨(by unfold z_ok; omega), fun hz => ?_, fun hz => k0 (by rw [← show x_h f x (13 - 0) 0 = x_h f x 13 0 from rfl, ← hc]; exact hz)⟩, (fun h => absurd h (by omega))⟩
      refine loop2 13 12 c m _ (by rw [← show x_h f x (13 - 0) 0 = x_h f x 13 0 from rfl, ← hc]; exact hz) (by decide) (by decide) (fun _ _ _ => rfl) (fun j hj => hR j hj) (fun j h1 h2 => by omega) ?_
      rw [hz]; simp [x_h]
    | succ n ih =>
      intro i c hi hn hc
      have h2 := hf n (by omega)
      have h4 : 0 ≤ c ∧ c < p := by rw [hc]; exact z_m0 (by omega)
      have h5 : 0 ≤ c * x ∧ c * x ≤ 31 * 31 := ⟨Int.mul_nonneg (by omega) (by omega), Int.mul_le_mul (by omega) (by omega) (by omega) (by omega)⟩
      refine y_220_4 ⟨(by unfold z_ok; omega), (fun h => absurd h (by omega)), fun _ => ⟨⟨by omega, by omega⟩, ?_⟩⟩
      rw [show i.toNat = n by omega, hR n (by omega)]
      refine n_p h (y_220_16 ⟨(by unfold z_dv; omega), ?_⟩)
      refine ih _ _ (by omega) (by omega) ?_
      rw [hc, x_hstep f x (13 - (n + 1)) n, show 13 - (n + 1) + 1 = 13 - n by omega]
  exact y_220 (loop 13 12 0 (by decide) (by decide) (by simp [x_h]))
/-- the highest power falls, as long as it divides -/
theorem x_h_zero {f : Nat → Int} {x : Int} : ∀ {n e : Nat}, (∀ i, e ≤ i → i < e + n → f i = 0) → x_h f x n e = 0
  | 0, _, _ => rfl
  | n + 1, e, h => by
    show f e + x * x_h f x n (e + 1) = 0
    rw [h e (by omega) (by omega), x_h_zero (fun i h1 h2 => h i (by omega) (by omega))]
    simp
theorem x_h_tail {f : Nat → Int} {x : Int} : ∀ {n e t : Nat}, (∀ i, e + t ≤ i → i < e + n → f i = 0) → t ≤ n → x_h f x n e = x_h f x t e
  | n, e, 0, h, _ => x_h_zero (fun i h1 h2 => h i (by omega) h2)
  | 0, _, t + 1, _, ht => absurd ht (by omega)
  | n + 1, e, t + 1, h, ht => by
    show f e + x * x_h f x n (e + 1) = f e + x * x_h f x t (e + 1)
    rw [x_h_tail (n := n) (t := t) (fun i h1 h2 => h i (by omega) (by omega)) (by omega)]
/-- a row whose highest place is t (below 13): its quotient's highest place is t less 1 -/
theorem x_q_top {p x : Int} {f : Nat → Int} {t : Nat} (hp : z_pr p) (ht : t < 13) (hf : x_R p f) (h0 : ¬ f t = 0) (hz : ∀ i, t < i → i < 13 → f i = 0) : (∀ i, t ≤ i → i < 13 → x_q p x f i = 0) ∧ (0 < t → ¬ x_q p x f (t - 1) = 0) ∧ (t = 0 → ¬ x_h f x 13 0 % p = 0) := by
  have hp5 := z_pr_le hp
  have hft := hf t ht
  refine ⟨fun i h1 h2 => ?_, fun h1 => ?_, fun h1 => ?_⟩
  · unfold x_q
    rw [x_h_zero (fun j h3 h4 => hz j (by omega) (by omega))]
    rfl
  · unfold x_q
    rw [show t - 1 + 1 = t by omega, x_h_tail (t := 1) (fun j h3 h4 => hz j (by omega) (by omega)) (by omega)]
    show ¬ (f t + x * 0) % p = 0
    rw [Int.mul_zero, Int.add_zero, z_mi hft.1 hft.2]
    exact h0
  · subst h1
    rw [x_h_tail (t := 1) (fun j h3 h4 => hz j (by omega) (by omega)) (by omega)]
    show ¬ (f 0 + x * 0) % p = 0
    rw [Int.mul_zero, Int.add_zero, z_mi hft.1 hft.2]
    exact h0
theorem n_orderOf {m : z_M} {g : z_g} {Q : q_V → q_S → Prop} {p x : Int} {f : Nat → Int} (h : n_P m p) (hR : t_R m 138 f) (hf : x_R p f) (h0 : 0 ≤ x) (h1 : x < p) (kk : ∀ m', (∀ a j, ¬ a = 139 → m' a j = m a j) → Q (.inl (r_order p x f)) (z_st m' g)) : z_C 218 [.inr (.inr 131), .inl x] (z_st m g) Q := by
  have hp5 := z_pr_le h.1
  -- as long as it is taken out
  have loop : ∀ (t : Nat) (n : Nat) (i : Int) (f' : Nat → Int) (m' : z_M), t < n → t < 13 → x_R p f' → ¬ f' t = 0 → (∀ i, t < i → i < 13 → f' i = 0) → (∀ a j, ¬ a = 139 → m' a j = m a j) → t_R m' 139 f' → (∀ m', (∀ a j, ¬ a = 139 → m' a j = m a j) → Q (.inl (i + x_ord p x n f')) (z_st m' g)) → z_T 218 22 [.inr (.inr 131), .inl x, .inl i] [] (z_st m' g) Q := by
    intro t
    induction t with
    | zero =>
      intro n i f' m' hn ht g1 g2 g3 g4 g5 kk
      obtain ⟨k, rfl⟩ : ∃ k, n = k + 1 := ⟨n - 1, by omega⟩
      have hq := x_q_top (x := x) h.1 ht g1 g2 g3
      have hP : n_P m' p := n_P_fr h ⟨g4 131 1 (by omega), fun a j _ _ => g4 a j (by omega)⟩
      refine y_218_22 (n_takesOut hP g5 g1 h0 h1 (fun hz => absurd hz (hq.2.2 rfl)) (fun hz => y_218_25 ⟨(by unfold z_ok; omega), fun _ => ?_, fun h => absurd rfl h⟩))
      have k1 := kk m' g4
      unfold x_ord at k1
      rw [if_neg hz] at k1
      rw [show i + ((0 : Nat) : Int) = i by omega] at k1
      exact k1
    | succ t ih =>
      intro n i f' m' hn ht g1 g2 g3 g4 g5 kk
      obtain ⟨k, rfl⟩ : ∃ k, n = k + 1 := ⟨n - 1, by omega⟩
      have hq := x_q_top (x := x) h.1 ht g1 g2 g3
      have hP : n_P m' p := n_P_fr h ⟨g4 131 1 (by omega), fun a j _ _ => g4 a j (by omega)⟩
      refine y_218_22 (n_takesOut hP g5 g1 h0 h1 (fun hz m2 j1 j2 => y_218_25 ⟨(by unfold z_ok; omega), fun h => absurd h (by decide), fun _ => ?_⟩) (fun hz => y_218_25 ⟨(by unfold z_ok; omega), fun _ => ?_, fun h => absurd rfl h⟩))
      · refine ih k (i + 1) (x_q p x f') m2 (by omega) (by omega) (x_q_R h.1) (hq.2.1 (by omega)) (fun j h2 h3 => hq.1 j (by omega) h3) (fun a j ha => by rw [j1 a j ha, g4 a j ha]) j2 fun m3 l1 => ?_
        have k1 := kk m3 l1
        unfold x_ord at k1
        rw [if_pos hz] at k1
        rw [show i + 1 + (x_ord p x k (x_q p x f') : Int) = i + ((x_ord p x k (x_q p x f') + 1 : Nat) : Int) by omega]
        exact k1
      · have k1 := kk m' g4
        unfold x_ord at k1
        rw [if_neg hz] at k1
        rw [show i + ((0 : Nat) : Int) = i by omega] at k1
        exact k1
  have copy : 0 ≤ x_top f 13 → ∀ (d e : Nat) (ei : Int) (m' : z_M), 13 - e = d → ei = (e : Int) → e ≤ 13 → (∀ a j, ¬ a = 139 → m' a j = m a j) → (∀ j, j < e → m' 139 j = f j) → z_T 218 7 [.inr (.inr 131), .inl x, .inl ei] [] (z_st m' g) Q := by
    intro htop d
    induction d with
    | zero =>
      intro e ei m' hd he h2 g1 g2
      have hr := x_top_rng f 13
      refine y_218_7 ⟨(by unfold z_ok2; omega), fun _ => ?_, (fun h => absurd h (by omega))⟩
      refine loop (x_top f 13).toNat 13 0 f m' (by omega) (by omega) hf (x_top_nz htop) (fun i h3 h4 => x_top_zero h4 (by omega)) g1 (fun j hj => g2 j (by omega)) fun m2 l1 => ?_
      have k1 := kk m2 l1
      unfold r_order at k1
      rw [if_neg (by omega)] at k1
      rw [Int.zero_add]
      exact k1
    | succ d ih =>
      intro e ei m' hd he h2 g1 g2
      refine y_218_7 ⟨(by unfold z_ok2; omega), (fun h => absurd h (by omega)), fun _ => ⟨⟨by omega, by omega⟩, ⟨by omega, by omega⟩, ?_⟩⟩
      rw [show ei.toNat = e by omega, g1 138 e (by omega), hR e (by omega)]
      refine ih (e + 1) _ _ (by omega) (by omega) (by omega) ?_ ?_
      · intro a j ha
        unfold q_upd
        rw [if_neg (by omega)]
        exact g1 a j ha
      · intro j hj
        unfold q_upd
        by_cases hje : j = e
        · rw [if_pos ⟨rfl, hje⟩, hje]
        · rw [if_neg (by omega)]
          exact g2 j (by omega)
  refine y_218 (n_isNothing h.1 hR hf (fun ht => y_218_2 ⟨(by unfold z_ok; omega), fun h => absurd h (by decide), fun _ => ?_⟩) (fun ht => y_218_2 ⟨(by unfold z_ok; omega), fun _ => copy ht 13 0 0 m rfl rfl (by omega) (fun _ _ _ => rfl) (fun j hj => by omega), fun h => absurd rfl h⟩))
  have k1 := kk m (fun _ _ _ => rfl)
  unfold r_order at k1
  rw [if_pos ht] at k1
  exact k1
