/-! CONTRACTS of the model: LOWERED, what is in common -/
def n_low (m m' : z_M) : Prop := ∀ a j, (a < 140 ∨ 141 < a) → ¬ (a = 131 ∧ j = 16) → m' a j = m a j
theorem n_fr_low {m m' : z_M} (f : n_low m m') : n_fr m m' := ⟨f 131 1 (by omega) (by omega), fun a j h1 h2 => f a j (by omega) (by omega)⟩
theorem n_lowers {m : z_M} {g : z_g} {Q : q_V → q_S → Prop} {s p : Int} {S : Nat} {kd fg : Int} {T : Nat → Int} (h : n_S m s p S kd fg T) (kk : ∀ m', n_low m m' → m' 131 16 = (x_at S (x_many S - 1) : Int) - (x_at S 0 : Int) → t_R m' 140 (l_N S (n_at p S kd fg T)) → t_R m' 141 (l_D p (l_N S (n_at p S kd fg T))) → Q q_dead (z_st m' g)) : z_C 223 [.inr (.inr 131), .inl s] (z_st m g) Q := by
  obtain ⟨L, eL⟩ : ∃ L, l_N S (n_at p S kd fg T) = L := ⟨_, rfl⟩
  have hS := h.2.2.2.2.1
  have hP := h.1
  have hp := hP.1
  have hp5 := z_pr_le hp
  have hS2 : S < 2147483648 := by have := hS.1; omega
  have h2 := hS.2.1
  have hl := x_at_le (S := S) (k := x_many S - 1) (by omega)
  have hN := n_at_N (S := S) (kd := kd) (fg := fg) (told := T) hp
  have rL : x_R p L := by rw [← eL]; exact l_N_R hN
  have hz : ∀ i : Nat, x_at S (x_many S - 1) < x_at S 0 + i → L i = 0 := fun i hi => by
    rw [← eL]
    unfold l_N
    by_cases hb : x_at S 0 + i < 13 ∧ S.testBit (x_at S 0 + i) = true
    · obtain ⟨k, hk, hk2⟩ := x_at_ex hb.1 hb.2
      exfalso
      by_cases hkl : k = x_many S - 1
      · rw [hkl] at hk2; omega
      · have := x_at_lt (S := S) (i := k) (j := x_many S - 1) (by omega) (by omega)
        omega
    · refine hN.2 _ ?_
      by_cases h : x_at S 0 + i < 13
      · exact Or.inr (fun e => hb ⟨h, e⟩)
      · exact Or.inl (by omega)
  obtain ⟨sp, esp⟩ : ∃ sp : Int, (x_at S (x_many S - 1) : Int) - (x_at S 0 : Int) = sp := ⟨_, rfl⟩
  rw [eL, esp] at kk
  have loop2 : ∀ (d e : Nat) (ei : Int) (m' : z_M), 13 - e = d → ei = (e : Int) → e ≤ 13 → n_low m m' → m' 131 16 = sp → t_R m' 140 L → (∀ j, j < e → m' 141 j = l_D p L j) → z_T 223 34 [.inr (.inr 131), .inl s, .inl (S : Int), .inl ei] [] (z_st m' g) Q := by
    intro d
    induction d with
    | zero =>
      intro e ei m' hd he hh f1 f2 f3 f4
      exact y_223_34 ⟨(by unfold z_ok2; omega), fun _ => kk m' f1 f2 f3 fun j hj => f4 j (by omega), (fun h => absurd h (by omega))⟩
    | succ d ih =>
      intro e ei m' hd he hh f1 f2 f3 f4
      have next : ∀ w : Int, w = l_D p L e → z_T 223 34 [.inr (.inr 131), .inl s, .inl (S : Int), .inl (ei + (1 : Int))] [] (z_st (q_upd m' 141 e w) g) Q := fun w hw => by
        refine ih (e + 1) _ _ (by omega) (by omega) (by omega) ?_ ?_ ?_ ?_
        · intro a j h1 h2
          rw [z_un (by omega)]
          exact f1 a j h1 h2
        · rw [z_un (by omega)]
          exact f2
        · intro j hj
          rw [z_un (by omega)]
          exact f3 j hj
        · intro j hj
          by_cases hje : j = e
          · rw [z_ue rfl hje, hje]
            exact hw
          · rw [z_un (by omega)]
            exact f4 j (by omega)
      refine y_223_34 ⟨(by unfold z_ok2; omega), (fun h => absurd h (by omega)), fun _ => ⟨(by unfold z_ok2; omega), fun h3 => ⟨⟨by omega, by omega⟩, ?_⟩, fun h3 => ⟨⟨by omega, by omega⟩, ?_⟩⟩⟩
      · rw [show ei.toNat = e by omega]
        refine next 0 ?_
        unfold l_D
        rw [hz (e + 1) (by omega), Int.mul_zero]
        rfl
      · have b1 := rL (e + 1) (by omega)
        have b2 : 0 ≤ (ei + 1) * L (e + 1) ∧ (ei + 1) * L (e + 1) ≤ 13 * 31 := ⟨Int.mul_nonneg (by omega) (by omega), Int.mul_le_mul (by omega) (by omega) (by omega) (by omega)⟩
        rw [show (ei + 1).toNat = e + 1 by omega, f3 (e + 1) (by omega)]
        refine n_p (n_P_fr hP (n_fr_low f1)) (y_223_56 ⟨(by unfold z_dv; omega), ⟨by omega, by omega⟩, ?_⟩)
        rw [show ei.toNat = e by omega]
        refine next _ ?_
        unfold l_D
        rw [he]
  have loop : ∀ (d e : Nat) (ei : Int) (m' : z_M), 13 - e = d → ei = (e : Int) → e ≤ 13 → n_low m m' → m' 131 16 = sp → (∀ j, j < e → m' 140 j = L j) → z_T 223 10 [.inr (.inr 131), .inl s, .inl (S : Int), .inl ei] [] (z_st m' g) Q := by
    intro d
    induction d with
    | zero =>
      intro e ei m' hd he hh f1 f2 f3
      exact y_223_10 ⟨(by unfold z_ok2; omega), fun _ => loop2 13 0 0 m' rfl rfl (by omega) f1 f2 (fun j hj => f3 j (by omega)) (fun j hj => by omega), (fun h => absurd h (by omega))⟩
    | succ d ih =>
      intro e ei m' hd he hh f1 f2 f3
      have next : ∀ w : Int, w = L e → z_T 223 10 [.inr (.inr 131), .inl s, .inl (S : Int), .inl (ei + (1 : Int))] [] (z_st (q_upd m' 140 e w) g) Q := fun w hw => by
        refine ih (e + 1) _ _ (by omega) (by omega) (by omega) ?_ ?_ ?_
        · intro a j h1 h2
          rw [z_un (by omega)]
          exact f1 a j h1 h2
        · rw [z_un (by omega)]
          exact f2
        · intro j hj
          by_cases hje : j = e
          · rw [z_ue rfl hje, hje]
            exact hw
          · rw [z_un (by omega)]
            exact f3 j (by omega)
      refine y_223_10 ⟨(by unfold z_ok2; omega), (fun h => absurd h (by omega)), fun _ => ⟨(by unfold z_ok2; omega), fun h3 => ⟨⟨by omega, by omega⟩, ?_⟩, fun h3 => n_first hS2 (by omega) (y_223_24 (n_numberOf (n_S_fr h (n_fr_low f1)) (by omega) (by omega) (y_223_27 ⟨⟨by omega, by omega⟩, ?_⟩)))⟩⟩
      · rw [show ei.toNat = e by omega]
        exact next 0 (hz e (by omega)).symm
      · rw [show ei.toNat = e by omega, show ((x_at S 0 : Int) + ei).toNat = x_at S 0 + e by omega]
        exact next _ (by rw [← eL]; rfl)
  refine y_223 (n_setOf h (y_223_3 (n_span hS2 (by omega) (y_223_7 ?_))))
  rw [esp]
  refine loop 13 0 0 _ rfl rfl (by omega) ?_ (z_ue rfl rfl) (fun j hj => by omega)
  intro a j h1 h2
  rw [z_un h2]
theorem n_deepOf_a {m : z_M} {g : z_g} {Q : q_V → q_S → Prop} {p : Int} {f : Nat → Int} (hp : z_pr p) (hR : t_R m 142 f) (hf : x_R p f) (kk : Q (.inl (x_top f 13)) (z_st m g)) : z_C 224 [.inr (.inr 142)] (z_st m g) Q := by
  have hp5 := z_pr_le hp
  have loop : ∀ (n : Nat) (i : Int), i = (n : Int) - 1 → n ≤ 13 → x_top f 13 = x_top f n → z_T 224 2 [.inr (.inr 142), .inl i] [] (z_st m g) Q := by
    intro n
    induction n with
    | zero =>
      intro i hi hn ht
      rw [ht] at kk
      rw [hi]
      exact y_224a_2 ⟨by unfold z_ok; decide, fun _ => kk, fun h => absurd h (by decide)⟩
    | succ n ih =>
      intro i hi hn ht
      have h1 := hR n (by omega)
      have h2 := hf n (by omega)
      refine y_224a_2 ⟨(by unfold z_ok; omega), (fun h => absurd h (by omega)), fun _ => ⟨⟨by omega, by omega⟩, ?_⟩⟩
      rw [show i.toNat = n by omega, h1]
      unfold x_top at ht
      refine ⟨(by unfold z_ok; omega), fun h0 => ?_, fun h0 => ?_⟩
      · rw [if_neg h0] at ht
        rw [show i = (n : Int) by omega, ← ht]
        exact kk
      · rw [if_pos h0] at ht
        exact ih _ (by omega) (by omega) ht
  exact y_224a (loop 13 _ (by decide) (by decide) rfl)
theorem n_deepOf_b {m : z_M} {g : z_g} {Q : q_V → q_S → Prop} {p : Int} {f : Nat → Int} (hp : z_pr p) (hR : t_R m 143 f) (hf : x_R p f) (kk : Q (.inl (x_top f 13)) (z_st m g)) : z_C 224 [.inr (.inr 143)] (z_st m g) Q := by
  have hp5 := z_pr_le hp
  have loop : ∀ (n : Nat) (i : Int), i = (n : Int) - 1 → n ≤ 13 → x_top f 13 = x_top f n → z_T 224 2 [.inr (.inr 143), .inl i] [] (z_st m g) Q := by
    intro n
    induction n with
    | zero =>
      intro i hi hn ht
      rw [ht] at kk
      rw [hi]
      exact y_224b_2 ⟨by unfold z_ok; decide, fun _ => kk, fun h => absurd h (by decide)⟩
    | succ n ih =>
      intro i hi hn ht
      have h1 := hR n (by omega)
      have h2 := hf n (by omega)
      refine y_224b_2 ⟨(by unfold z_ok; omega), (fun h => absurd h (by omega)), fun _ => ⟨⟨by omega, by omega⟩, ?_⟩⟩
      rw [show i.toNat = n by omega, h1]
      unfold x_top at ht
      refine ⟨(by unfold z_ok; omega), fun h0 => ?_, fun h0 => ?_⟩
      · rw [if_neg h0] at ht
        rw [show i = (n : Int) by omega, ← ht]
        exact kk
      · rw [if_pos h0] at ht
        exact ih _ (by omega) (by omega) ht
  exact y_224b (loop 13 _ (by decide) (by decide) rfl)
theorem n_divides {m : z_M} {g : z_g} {Q : q_V → q_S → Prop} {p : Int} {A B : Nat → Int} (h : n_P m p) (hA : t_R m 142 A) (hB : t_R m 143 B) (rA : x_R p A) (rB : x_R p B) (ht : 0 ≤ x_top B 13) (kk : ∀ m', (∀ a j, ¬ a = 142 → m' a j = m a j) → t_R m' 142 (x_red p A B) → Q q_dead (z_st m' g)) : z_C 225 [.inr (.inr 131), .inl (x_top B 13)] (z_st m g) Q := by
  have hp := h.1
  have hp5 := z_pr_le hp
  have hr := x_top_rng B 13
  obtain ⟨t, et⟩ := Int.eq_ofNat_of_zero_le ht
  have hbt := rB t (by omega)
  have hiv := z_inv_rng (x := B t) hp
  have hPm : ∀ m' : z_M, (∀ a j, ¬ a = 142 → m' a j = m a j) → n_P m' p := fun m' f => n_P_fr h ⟨f 131 1 (by omega), fun a j _ _ => f a j (by omega)⟩
  have out : ∀ (n : Nat) (i : Int) (A' : Nat → Int) (m' : z_M) (v4 v5 : q_V), i = (t : Int) + (n : Int) - 1 → t + n ≤ 13 → (∀ a j, ¬ a = 142 → m' a j = m a j) → t_R m' 142 A' → x_R p A' → x_rd p B t (z_inv p (B t)) n A' = x_red p A B → z_T 225 9 [.inr (.inr 131), .inl (t : Int), .inl (z_inv p (B t)), .inl i, v4, v5] [] (z_st m' g) Q := by
    intro n
    induction n with
    | zero =>
      intro i A' m' v4 v5 hi hn f1 f2 f3 hx
      refine y_225_9 ⟨(by unfold z_ok2; omega), fun _ => kk m' f1 ?_, (fun h => absurd h (by omega))⟩
      rw [← hx]
      exact f2
    | succ n ih =>
      intro i A' m' v4 v5 hi hn f1 f2 f3 hx
      have b1 := f3 (t + n) (by omega)
      have b2 : 0 ≤ A' (t + n) * z_inv p (B t) ∧ A' (t + n) * z_inv p (B t) ≤ 31 * 31 := ⟨Int.mul_nonneg (by omega) (by omega), Int.mul_le_mul (by omega) (by omega) (by omega) (by omega)⟩
      have b3 := z_m0 (p := p) (a := A' (t + n) * z_inv p (B t)) (by omega)
      have inn : ∀ (d k : Nat) (ki : Int) (m' : z_M), t + 1 - k = d → ki = (k : Int) → k ≤ t + 1 → (∀ a j, ¬ a = 142 → m' a j = m a j) → (∀ j, j < 13 → m' 142 j = if j < n + k then x_r1 p B t (z_inv p (B t)) (t + n) A' j else A' j) → z_T 225 24 [.inr (.inr 131), .inl (t : Int), .inl (z_inv p (B t)), .inl i, .inl (A' (t + n) * z_inv p (B t) % p), .inl ki] [] (z_st m' g) Q := by
        intro d
        induction d with
        | zero =>
          intro k ki m' hd he hk g1 g2
          refine y_225_24 ⟨(by unfold z_ok2; omega), fun _ => ?_, (fun h => absurd h (by omega))⟩
          refine ih _ (x_r1 p B t (z_inv p (B t)) (t + n) A') m' _ _ (by omega) (by omega) g1 (fun j hj => ?_) (x_r1_R hp f3) hx
          rw [g2 j hj]
          by_cases h : j < n + k
          · rw [if_pos h]
          · rw [if_neg h]
            unfold x_r1
            rw [if_neg (by omega)]
        | succ d ih2 =>
          intro k ki m' hd he hk g1 g2
          have e1 : m' 142 (n + k) = A' (n + k) := by rw [g2 (n + k) (by omega), if_neg (by omega)]
          have e2 : m' 143 k = B k := by rw [g1 143 k (by omega)]; exact hB k (by omega)
          have b4 := f3 (n + k) (by omega)
          have b5 := rB k (by omega)
          have b6 : 0 ≤ (A' (t + n) * z_inv p (B t) % p) * B k ∧ (A' (t + n) * z_inv p (B t) % p) * B k ≤ 31 * 31 := ⟨Int.mul_nonneg (by omega) (by omega), Int.mul_le_mul (by omega) (by omega) (by omega) (by omega)⟩
          refine y_225_24 ⟨(by unfold z_ok2; omega), (fun h => absurd h (by omega)), fun _ => ⟨⟨by omega, by omega⟩, ⟨by omega, by omega⟩, ?_⟩⟩
          rw [show (i - (t : Int) + ki).toNat = n + k by omega, show ki.toNat = k by omega, e1, e2]
          refine n_rest (hPm m' g1) (by unfold z_ok; omega) (y_225_51 ⟨⟨by omega, by omega⟩, ?_⟩)
          rw [show (i - (t : Int) + ki).toNat = n + k by omega]
          refine ih2 (k + 1) _ _ (by omega) (by omega) (by omega) ?_ ?_
          · intro a j ha
            rw [z_un (by omega)]
            exact g1 a j ha
          · intro j hj
            by_cases hjk : j = n + k
            · rw [z_ue rfl hjk, if_pos (by omega), hjk]
              unfold x_r1
              rw [if_pos (by omega), show n + k - (t + n - t) = k by omega]
            · rw [z_un (by omega), g2 j hj]
              by_cases h : j < n + k
              · rw [if_pos h, if_pos (by omega)]
              · rw [if_neg h, if_neg (by omega)]
      refine y_225_9 ⟨(by unfold z_ok2; omega), (fun h => absurd h (by omega)), fun _ => ⟨⟨by omega, by omega⟩, ?_⟩⟩
      rw [show i.toNat = t + n by omega, f2 (t + n) (by omega)]
      refine n_p (hPm m' f1) (y_225_20 ⟨(by unfold z_dv; omega), ?_⟩)
      refine inn (t + 1) 0 0 m' rfl rfl (by omega) f1 fun j hj => ?_
      rw [f2 j hj]
      by_cases h : j < n + 0
      · rw [if_pos h]
        unfold x_r1
        rw [if_neg (by omega)]
      · rw [if_neg h]
  refine y_225 ⟨⟨by omega, by omega⟩, ?_⟩
  rw [et, show ((t : Int)).toNat = t by omega, hB t (by omega)]
  refine n_over h (by unfold z_ok; omega) (y_225_6 ?_)
  refine out (13 - t) 12 A m _ _ (by omega) (by omega) (fun _ _ _ => rfl) hA rA ?_
  unfold x_red
  rw [et]
  rfl
def n_com (m m' : z_M) : Prop := ∀ a j, (a < 140 ∨ 143 < a) → ¬ (a = 131 ∧ (j = 15 ∨ j = 16)) → m' a j = m a j
theorem n_fr_com {m m' : z_M} (f : n_com m m') : n_fr m m' := ⟨f 131 1 (by omega) (by omega), fun a j h1 h2 => f a j (by omega) (by omega)⟩
theorem n_findsCommon {m : z_M} {g : z_g} {Q : q_V → q_S → Prop} {s p : Int} {S : Nat} {kd fg : Int} {T : Nat → Int} (h : n_S m s p S kd fg T) (kk : ∀ m', n_com m m' → m' 131 15 = x_top (r_G p (l_N S (n_at p S kd fg T))) 13 → t_R m' 142 (r_C p (l_N S (n_at p S kd fg T))) → Q q_dead (z_st m' g)) : z_C 222 [.inr (.inr 131), .inl s] (z_st m g) Q := by
  obtain ⟨L, eL⟩ : ∃ L, l_N S (n_at p S kd fg T) = L := ⟨_, rfl⟩
  have hP := h.1
  have hp := hP.1
  have hp5 := z_pr_le hp
  have rL : x_R p L := by rw [← eL]; exact l_N_R (n_at_N hp)
  have rG : x_R p (r_G p L) := x_gcd_R hp 14 L _ rL (l_D_R hp)
  have hrG := x_top_rng (r_G p L) 13
  obtain ⟨G, eG⟩ : ∃ G, r_G p L = G := ⟨_, rfl⟩
  obtain ⟨fc, efc⟩ : ∃ fc, (if x_top G 13 < 0 then 0 else z_inv p (G (x_top G 13).toNat)) = fc := ⟨_, rfl⟩
  have hC : ∀ i, r_C p L i = (G i * fc) % p := fun i => by unfold r_C; rw [eG, efc]
  rw [eL, eG] at kk
  rw [eG] at rG hrG
  have hfc : 0 ≤ fc ∧ fc < p := by
    rw [← efc]
    split
    · omega
    · exact z_inv_rng hp
  have last : ∀ (d i : Nat) (ii : Int) (m' : z_M), 13 - i = d → ii = (i : Int) → i ≤ 13 → n_com m m' → m' 131 15 = x_top G 13 → (∀ j, i ≤ j → j < 13 → m' 142 j = G j) → (∀ j, j < i → m' 142 j = r_C p L j) → z_T 222 81 [.inr (.inr 131), .inl s, .inl fc, .inl ii] [] (z_st m' g) Q := by
    intro d
    induction d with
    | zero =>
      intro i ii m' hd he hi f1 f2 f3 f4
      exact y_222_81 ⟨(by unfold z_ok2; omega), fun _ => kk m' f1 f2 fun j hj => f4 j (by omega), (fun h => absurd h (by omega))⟩
    | succ d ih =>
      intro i ii m' hd he hi f1 f2 f3 f4
      have b1 := rG i (by omega)
      have b2 : 0 ≤ G i * fc ∧ G i * fc ≤ 31 * 31 := ⟨Int.mul_nonneg (by omega) (by omega), Int.mul_le_mul (by omega) (by omega) (by omega) (by omega)⟩
      refine y_222_81 ⟨(by unfold z_ok2; omega), (fun h => absurd h (by omega)), fun _ => ⟨⟨by omega, by omega⟩, ?_⟩⟩
      rw [show ii.toNat = i by omega, f3 i (Nat.le_refl _) (by omega)]
      refine n_p (n_P_fr hP (n_fr_com f1)) (y_222_95 ⟨(by unfold z_dv; omega), ⟨by omega, by omega⟩, ?_⟩)
      rw [show ii.toNat = i by omega]
      refine ih (i + 1) _ _ (by omega) (by omega) (by omega) ?_ ?_ ?_ ?_
      · intro a j h1 h2
        rw [z_un (by omega)]
        exact f1 a j h1 h2
      · rw [z_un (by omega)]
        exact f2
      · intro j h1 h2
        rw [z_un (by omega)]
        exact f3 j (by omega) h2
      · intro j hj
        by_cases hji : j = i
        · rw [z_ue rfl hji, hji, hC]
        · rw [z_un (by omega)]
          exact f4 j (by omega)
  have fin : ∀ (a2 : Int) (v : q_V) (m' : z_M), n_com m m' → t_R m' 142 G → z_C 224 [.inr (.inr 142)] (z_st m' g) (fun w S => z_T 222 65 [.inr (.inr 131), .inl s, .inl a2, v] (q_push w [.inr (.inr 131)]) S Q) := fun a2 v m' f1 f2 => by
    refine n_deepOf_a hp f2 rG (y_222_65 ?_)
    have f1' : n_com m (q_upd m' 131 15 (x_top G 13)) := fun a j h1 h2 => by rw [z_un (by omega)]; exact f1 a j h1 h2
    have f2' : ∀ j, 0 ≤ j → j < 13 → (q_upd m' 131 15 (x_top G 13)) 142 j = G j := fun j _ hj => by rw [z_un (by omega)]; exact f2 j hj
    refine ⟨(by unfold z_ok; omega), fun h0 => ⟨⟨by omega, by omega⟩, ?_⟩, fun h0 => y_222_78 ?_⟩
    · have b1 := rG (x_top G 13).toNat (by omega)
      rw [f2 _ (by omega)]
      refine n_over (n_P_fr hP (n_fr_com f1')) (by unfold z_ok; omega) (y_222_78 ?_)
      have e : z_inv p (G (x_top G 13).toNat) = fc := by rw [← efc, if_neg (by omega)]
      rw [e]
      exact last 13 0 0 _ rfl rfl (by omega) f1' (z_ue rfl rfl) f2' (fun j hj => by omega)
    · have e : (0 : Int) = fc := by rw [← efc, if_pos h0]
      rw [e]
      exact last 13 0 _ _ rfl (by rw [← e]; rfl) (by omega) f1' (z_ue rfl rfl) f2' (fun j hj => by omega)
  have main : ∀ (n : Nat) (a2 : Int) (A B : Nat → Int) (m' : z_M) (v : q_V), x_top B 13 < n → n_com m m' → x_R p A → x_R p B → x_gcd p n A B = G → t_R m' 142 A → t_R m' 143 B → z_T 222 26 [.inr (.inr 131), .inl s, .inl a2, v] [] (z_st m' g) Q := by
    intro n
    induction n with
    | zero =>
      intro a2 A B m' v hn f1 rA rB hG hA hB
      have hG : A = G := hG
      subst hG
      have hr := x_top_rng B 13
      exact y_222_26 (n_deepOf_b hp hB rB (y_222_29 ⟨(by unfold z_ok; omega), fun _ => fin _ _ m' f1 hA, (fun h => absurd h (by omega))⟩))
    | succ n ih =>
      intro a2 A B m' v hn f1 rA rB hG hA hB
      have hr := x_top_rng B 13
      unfold x_gcd at hG
      refine y_222_26 (n_deepOf_b hp hB rB (y_222_29 ⟨(by unfold z_ok; omega), fun hz => ?_, fun hz => ?_⟩))
      · rw [if_pos hz] at hG
        subst hG
        exact fin _ _ m' f1 hA
      · rw [if_neg (by omega)] at hG
        have hlt := x_red_top hp rA rB hz
        refine n_deepOf_b hp hB rB (y_222_34 (n_divides (n_P_fr hP (n_fr_com f1)) hA hB rA rB hz fun m2 g1 g2 => y_222_35 ?_))
        have g3 : t_R m2 143 B := fun j hj => by rw [g1 143 j (by omega)]; exact hB j hj
        have swap : ∀ (d i : Nat) (ii : Int) (m3 : z_M) (v : q_V), 13 - i = d → ii = (i : Int) → i ≤ 13 → n_com m m3 → (∀ j, j < 13 → m3 142 j = if j < i then B j else x_red p A B j) → (∀ j, j < 13 → m3 143 j = if j < i then x_red p A B j else B j) → z_T 222 37 [.inr (.inr 131), .inl s, .inl ii, v] [] (z_st m3 g) Q := by
          intro d
          induction d with
          | zero =>
            intro i ii m3 v hd he hi k1 k2 k3
            refine y_222_37 ⟨(by unfold z_ok2; omega), fun _ => ih _ B (x_red p A B) m3 _ (by omega) k1 rB (x_red_R hp rA) hG (fun j hj => ?_) (fun j hj => ?_), (fun h => absurd h (by omega))⟩
            · rw [k2 j hj, if_pos (by omega)]
            · rw [k3 j hj, if_pos (by omega)]
          | succ d ih2 =>
            intro i ii m3 v hd he hi k1 k2 k3
            have e1 := k2 i (by omega)
            have e2 := k3 i (by omega)
            rw [if_neg (by omega)] at e1 e2
            refine y_222_37 ⟨(by unfold z_ok2; omega), (fun h => absurd h (by omega)), fun _ => ⟨⟨by omega, by omega⟩, ⟨by omega, by omega⟩, ⟨by omega, by omega⟩, ⟨by omega, by omega⟩, ?_⟩⟩
            rw [show ii.toNat = i by omega, e1, e2]
            refine ih2 (i + 1) _ _ _ (by omega) (by omega) (by omega) ?_ ?_ ?_
            · intro a j h1 h2
              rw [z_un (by omega), z_un (by omega)]
              exact k1 a j h1 h2
            · intro j hj
              rw [z_un (by omega)]
              by_cases hji : j = i
              · rw [z_ue rfl hji, if_pos (by omega), hji]
              · rw [z_un (by omega), k2 j hj]
                by_cases hj2 : j < i
                · rw [if_pos hj2, if_pos (by omega)]
                · rw [if_neg hj2, if_neg (by omega)]
            · intro j hj
              by_cases hji : j = i
              · rw [z_ue rfl hji, if_pos (by omega), hji]
              · rw [z_un (by omega), z_un (by omega), k3 j hj]
                by_cases hj2 : j < i
                · rw [if_pos hj2, if_pos (by omega)]
                · rw [if_neg hj2, if_neg (by omega)]
        refine swap 13 0 0 m2 _ rfl rfl (by omega) (fun a j h1 h2 => by rw [g1 a j (by omega)]; exact f1 a j h1 h2) (fun j hj => ?_) (fun j hj => ?_)
        · rw [if_neg (by omega)]; exact g2 j hj
        · rw [if_neg (by omega)]; exact g3 j hj
  have copy : ∀ (d i : Nat) (ii : Int) (m' : z_M), 13 - i = d → ii = (i : Int) → i ≤ 13 → n_com m m' → t_R m' 140 L → t_R m' 141 (l_D p L) → (∀ j, j < i → m' 142 j = L j) → (∀ j, j < i → m' 143 j = l_D p L j) → z_T 222 5 [.inr (.inr 131), .inl s, .inl ii, q_dead] [] (z_st m' g) Q := by
    intro d
    induction d with
    | zero =>
      intro i ii m' hd he hi f1 f2 f3 f4 f5
      have hr := x_top_rng (l_D p L) 13
      exact y_222_5 ⟨(by unfold z_ok2; omega), fun _ => main 14 _ L (l_D p L) m' _ (by omega) f1 rL (l_D_R hp) eG (fun j hj => f4 j (by omega)) (fun j hj => f5 j (by omega)), (fun h => absurd h (by omega))⟩
    | succ d ih =>
      intro i ii m' hd he hi f1 f2 f3 f4 f5
      refine y_222_5 ⟨(by unfold z_ok2; omega), (fun h => absurd h (by omega)), fun _ => ⟨⟨by omega, by omega⟩, ⟨by omega, by omega⟩, ⟨by omega, by omega⟩, ⟨by omega, by omega⟩, ?_⟩⟩
      rw [show ii.toNat = i by omega, f2 i (by omega), f3 i (by omega)]
      refine ih (i + 1) _ _ (by omega) (by omega) (by omega) ?_ ?_ ?_ ?_ ?_
      · intro a j h1 h2
        rw [z_un (by omega), z_un (by omega)]
        exact f1 a j h1 h2
      · intro j hj
        rw [z_un (by omega), z_un (by omega)]
        exact f2 j hj
      · intro j hj
        rw [z_un (by omega), z_un (by omega)]
        exact f3 j hj
      · intro j hj
        rw [z_un (by omega)]
        by_cases hji : j = i
        · rw [z_ue rfl hji, hji]
        · rw [z_un (by omega)]
          exact f4 j (by omega)
      · intro j hj
        by_cases hji : j = i
        · rw [z_ue rfl hji, hji]
        · rw [z_un (by omega), z_un (by omega)]
          exact f5 j (by omega)
  refine y_222 (n_lowers h fun m' f1 f2 f3 f4 => y_222_3 ?_)
  rw [eL] at f3 f4
  exact copy 13 0 0 m' rfl rfl (by omega) (fun a j h1 h2 => f1 a j (by omega) (by omega)) f3 f4 (fun j hj => by omega) (fun j hj => by omega)
