/-! PAIRS: lots -/
theorem q_and_31 (x : Int) : 0 ≤ q_bin 3 x 2147483647 ∧ q_bin 3 x 2147483647 < 2147483648 := by
  have h : ∀ a : Int32, (a.toInt < 0 ↔ a.toBitVec.msb = true) := fun a => by
    rw [BitVec.msb_eq_toInt, decide_eq_true_eq]
    exact Iff.rfl
  have h1 : ¬ (Int32.ofInt x &&& Int32.ofInt 2147483647).toInt < 0 := by
    rw [h, Int32.toBitVec_and, BitVec.msb_and]
    have : (Int32.ofInt 2147483647).toBitVec.msb = false := by decide
    rw [this, Bool.and_false]
    decide
  have h2 := Int32.toInt_lt (Int32.ofInt x &&& Int32.ofInt 2147483647)
  have h2 : (Int32.ofInt x &&& Int32.ofInt 2147483647).toInt < 2147483648 := h2
  show 0 ≤ (Int32.ofInt x &&& Int32.ofInt 2147483647).toInt ∧ (Int32.ofInt x &&& Int32.ofInt 2147483647).toInt < 2147483648
  exact ⟨by omega, h2⟩
def l_nx (a : Int) : Int := a * 1103515245 + 12345
def l_sd (a : Int) : Nat → Int
  | 0 => a
  | n + 1 => l_nx (l_sd a n)
def l_dr (p a : Int) (n : Nat) : Int := q_bin 3 (l_nx (l_sd a n)) 2147483647 / 65536 % p
def l_NN (m : z_M) (s a : Int) : Nat → Int := n_at (s_p m) (s_S m s) (m 4 s.toNat) (m 5 s.toNat) (fun e => l_dr (s_p m) a (x_pre (s_S m s) e).length)
def z_lt (P : Int → Prop) (step : Int → Int) : Nat → Int → Int → Int → Prop
  | 0, a, a', c => a' = a ∧ c = 0
  | n + 1, a, a', c => ∃ a1 c1, z_lt P step n a a1 c1 ∧ a' = step a1 ∧ ((P a1 ∧ c = c1 + 1) ∨ (¬ P a1 ∧ c = c1))
theorem z_lt_uni {P : Int → Prop} {step : Int → Int} : ∀ {n : Nat} {a a' c a'' c' : Int}, z_lt P step n a a' c → z_lt P step n a a'' c' → a' = a'' ∧ c = c'
  | 0, _, _, _, _, _, h, h' => ⟨h.1.trans h'.1.symm, h.2.trans h'.2.symm⟩
  | n + 1, _, _, _, _, _, h, h' => by
    obtain ⟨a1, c1, h1, h2, h3⟩ := h
    obtain ⟨a2, c2, g1, g2, g3⟩ := h'
    obtain ⟨e1, e2⟩ := z_lt_uni h1 g1
    subst e1 e2
    refine ⟨h2.trans g2.symm, ?_⟩
    rcases h3 with ⟨q1, q2⟩ | ⟨q1, q2⟩
    · rcases g3 with ⟨r1, r2⟩ | ⟨r1, r2⟩
      · rw [q2, r2]
      · exact absurd q1 r1
    · rcases g3 with ⟨r1, r2⟩ | ⟨r1, r2⟩
      · exact absurd r1 q1
      · rw [q2, r2]
def l_R (m : z_M) (s : Int) (n : Nat) (a a' c : Int) : Prop := z_lt (fun b => x_dbl (s_p m) (l_NN m s b)) (fun b => l_sd b (x_many (s_S m s))) n a a' c
theorem c_lots {m : z_M} {g : z_g} {Q : q_V → q_S → Prop} {s n a : Int} (hC : i_C m) (hZ : i_Z m) (h0 : 0 ≤ s) (h1 : s < m 1 3) (n1 : 1 ≤ n) (n40 : n ≤ 40) (kk : ∀ m' a' c, c_Q m m' → l_R m s n.toNat a a' c → Q (.inl c) (z_st m' g)) : z_T 139 3 [.inr (.inr 0), .inl s, .inl n, .inl a, q_dead, q_dead, q_dead, q_dead] [.inl 1] (z_st m g) Q := by
  have hV := hC.1
  have hp := s_p_pr hV
  have hp5 := z_pr_le hp
  have hSV := (s_S_V hV h0 h1).1
  have h6 := hSV.2.2
  obtain ⟨-, -, k1, k2, k3, k4, -⟩ := hV.2.2.2.2.2.1 s.toNat (by omega)
  refine y_139_3 ⟨(by unfold z_ok; omega), fun _ => ⟨(by unfold z_ok2; omega), (fun h => absurd h (by omega)), fun _ => ⟨(by unfold z_ok2; omega), fun _ => c_lookAt hC h0 h1 fun m1 f1 hT g4 g5 => y_139_17 ?_, (fun h => absurd h (by omega))⟩⟩, (fun h => absurd h (by omega))⟩
  have hN : ∀ b, x_N (s_p m) (s_S m s) (l_NN m s b) := fun b => n_at_N hp
  have outer : ∀ (d t : Nat) (ti b c : Int) (m2 : z_M) (da7 : q_V), n.toNat - t = d → ti = (t : Int) → t ≤ n.toNat → (∀ x j, ¬ x = 68 → m2 x j = m1 x j) → l_R m s t a b c → z_T 139 23 [.inr (.inr 0), .inl s, .inl n, .inl a, .inl b, .inl c, .inl ti, da7] [] (z_st m2 g) Q := by
    intro d
    induction d with
    | zero =>
      intro t ti b c m2 da7 hd hti htn q hr
      have ht : t = n.toNat := by omega
      subst ht
      exact y_139_23 ⟨(by unfold z_ok2; omega), fun _ => kk m2 b c ⟨fun x j hh => by rw [q x j (by omega), f1 x j (by omega)], Or.inr ⟨s_p m, hT.1.1, by rw [q 29 0 (by omega)]; exact hT.1.2.1, fun x e hx he => by rw [q (31 + x) e (by omega)]; exact hT.1.2.2.1 x e hx he, fun x hx => by rw [q 62 x (by omega)]; exact hT.1.2.2.2 x hx⟩, by show _ = _; rw [q 72 12 (by omega), f1 72 12 (by omega)]; exact hZ⟩ hr, (fun h => absurd h (by omega))⟩
    | succ d ih =>
      intro t ti b c m2 da7 hd hti htn q hr
      have inner : ∀ (e k : Nat) (ki : Int) (m3 : z_M), x_many (s_S m s) - k = e → ki = (k : Int) → k ≤ x_many (s_S m s) → (∀ x j, ¬ x = 68 → m3 x j = m1 x j) → (∀ i, i < k → m3 68 i = l_NN m s b (x_at (s_S m s) i)) → z_T 139 28 [.inr (.inr 0), .inl s, .inl n, .inl a, .inl (l_sd b k), .inl c, .inl ti, .inl ki] [] (z_st m3 g) Q := by
        intro e
        induction e with
        | zero =>
          intro k ki m3 he hki hkn q3 r3
          have hk : k = x_many (s_S m s) := by omega
          subst hk
          have hT3 : t_TT m3 (s_p m) (s_S m s) (l_NN m s b) := ⟨⟨hT.1.1, by rw [q3 29 0 (by omega)]; exact hT.1.2.1, fun x e hx he => by rw [q3 (31 + x) e (by omega)]; exact hT.1.2.2.1 x e hx he, fun x hx => by rw [q3 62 x (by omega)]; exact hT.1.2.2.2 x hx⟩, ⟨by rw [q3 66 1 (by omega)]; exact hT.2.1.1, fun i hi => by rw [q3 (66 + 1) i (by omega)]; exact hT.2.1.2 i hi⟩, r3⟩
          refine y_139_28 ?_
          rw [q3 66 1 (by omega), hT.2.1.1]
          exact ⟨(by unfold z_ok2; omega), fun _ => c_hasDouble h6 hT3 (hN b) (fun hy => y_139_57 ⟨(by unfold z_ok; omega), (fun h => absurd h (by omega)), fun _ => ih (t + 1) (ti + 1) _ _ m3 _ (by omega) (by omega) (by omega) q3 ⟨b, c, hr, rfl, Or.inl ⟨hy, rfl⟩⟩⟩) (fun hn => y_139_57 ⟨(by unfold z_ok; omega), fun _ => ih (t + 1) (ti + 1) _ _ m3 _ (by omega) (by omega) (by omega) q3 ⟨b, c, hr, rfl, Or.inr ⟨hn, rfl⟩⟩, (fun h => absurd h (by omega))⟩), (fun h => absurd h (by omega))⟩
        | succ e ihe =>
          intro k ki m3 he hki hkn q3 r3
          have hk : k < x_many (s_S m s) := by omega
          obtain ⟨b0, b1⟩ := q_and_31 (l_sd b k * 1103515245 + 12345)
          refine y_139_28 ?_
          rw [q3 66 1 (by omega), hT.2.1.1]
          refine ⟨(by unfold z_ok2; omega), (fun h => absurd h (by omega)), fun _ => ⟨⟨by omega, by omega, by omega, by omega⟩, c_mod' hp (by rw [q3 29 0 (by omega)]; exact hT.1.2.1) (by unfold z_ok; omega) (y_139_51 ?_)⟩⟩
          have hm := z_m0 (p := s_p m) (a := q_bin 3 (l_sd b k * 1103515245 + 12345) 2147483647 / 65536) (by omega)
          refine c_tell (fg := m 5 s.toNat) (kd := m 4 s.toNat) (p := s_p m) hp (by rw [q3 29 0 (by omega)]; exact hT.1.2.1) h6 ⟨by rw [q3 66 1 (by omega)]; exact hT.2.1.1, fun i hi => by rw [q3 (66 + 1) i (by omega)]; exact hT.2.1.2 i hi⟩ (by rw [q3 65 4 (by omega)]; exact g4) (by rw [q3 65 5 (by omega)]; exact g5) ⟨k1, k2⟩ ⟨k3, k4⟩ (by omega) (by omega) ⟨hm.1, by omega⟩ (y_139_52 (ihe (k + 1) (ki + 1) _ (by omega) (by omega) (by omega) (fun x j h => by rw [z_un (by omega)]; exact q3 x j h) (fun i hi => ?_)))
          rw [show ki.toNat = k by omega]
          by_cases hik : i = k
          · rw [z_ue rfl hik, hik]
            unfold l_NN
            rw [n_at_at hk]
            obtain ⟨u1, u2, u3⟩ := x_at_uniq hk rfl
            rw [u3]
            rfl
          · rw [z_un (by omega)]; exact r3 i (by omega)
      exact y_139_23 ⟨(by unfold z_ok2; omega), (fun h => absurd h (by omega)), fun _ => inner (x_many (s_S m s)) 0 0 m2 (by omega) rfl (by omega) q (fun i hi => absurd hi (by omega))⟩
  exact outer n.toNat 0 0 a 0 m1 _ (by omega) rfl (by omega) (fun _ _ _ => rfl) ⟨rfl, rfl⟩
