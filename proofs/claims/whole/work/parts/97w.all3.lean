/-! PAIRS: all, the model and the pair -/
theorem n_all {m m1 : z_M} {g : z_g} {Q : q_V → q_S → Prop} {p u w : Int} {S : Nat} (hP : n_P m1 p) (h3 : x_many S = 3) (hS : S < 8192) (p13 : p ≤ 13) (hw : w = 0 ∨ w = 1) (f : ∀ a j, ¬ a = 138 → m1 a j = m a j) (kk : ∀ m' c a v, (∀ a j, ¬ a = 138 → m' a j = m a j) → z_cn (o_P p S) 0 ((p.toNat - 1) * (p.toNat - 1) * (p.toNat - 1)) c a → z_f1 (o_P p S) (o_val p) ((p.toNat - 1) * (p.toNat - 1) * (p.toNat - 1)) v → Q (.inl (if w = 0 then c else v)) (z_st m' g)) : z_T 259 32 [.inr (.inr 131), .inl u, .inl w, .inl (S : Int), .inl 0, .inl (-5), .inl 0, q_dead, q_dead, q_dead, q_dead] [] (z_st m1 g) Q := by
  have hp := hP.1
  have hp5 := z_pr_le hp
  have pf : ∀ m3 : z_M, (∀ a j, ¬ a = 138 → m3 a j = m a j) → n_P m3 p := fun m3 q => ⟨hp, by rw [q 131 1 (by omega), ← f 131 1 (by omega)]; exact hP.2.1, by rw [q 131 1 (by omega), ← f 131 1 (by omega)]; exact hP.2.2.1, by rw [q 131 1 (by omega), ← f 131 1 (by omega), q 132 _ (by omega), ← f 132 _ (by omega)]; exact hP.2.2.2⟩
  have h01 := x_at_lt (S := S) (i := 0) (j := 1) (by omega) (by omega)
  have h12 := x_at_lt (S := S) (i := 1) (j := 2) (by omega) (by omega)
  have hle := x_at_le (S := S) (k := 2) (by omega)
  have q3 : (p.toNat - 1) * (p.toNat - 1) * (p.toNat - 1) ≤ 1728 := by
    have h1 : (p.toNat - 1) * (p.toNat - 1) ≤ 12 * 12 := Nat.mul_le_mul (by omega) (by omega)
    have h2 : (p.toNat - 1) * (p.toNat - 1) * (p.toNat - 1) ≤ 12 * 12 * 12 := Nat.mul_le_mul h1 (by omega)
    omega
  have q2 : (p.toNat - 1) * (p.toNat - 1) ≤ 144 := Nat.mul_le_mul (show p.toNat - 1 ≤ 12 by omega) (show p.toNat - 1 ≤ 12 by omega)
  have t0 : x_at S (0 : Int).toNat = x_at S 0 := rfl
  have t1 : x_at S (1 : Int).toNat = x_at S 1 := rfl
  have t2 : x_at S (2 : Int).toNat = x_at S 2 := rfl
  have q1p : 0 < (p.toNat - 1) * (p.toNat - 1) := Nat.mul_pos (by omega) (by omega)
  have main : ∀ (d k : Nat) (ki c a v : Int) (m3 : z_M) (d8 d9 d10 : q_V), (p.toNat - 1) * (p.toNat - 1) * (p.toNat - 1) - k = d → ki = (k : Int) → k ≤ (p.toNat - 1) * (p.toNat - 1) * (p.toNat - 1) → (∀ a j, ¬ a = 138 → m3 a j = m a j) → (∀ e, e < 13 → ¬ e = x_at S 0 → ¬ e = x_at S 1 → ¬ e = x_at S 2 → m3 138 e = 0) → z_cn (o_P p S) 0 k c a → c ≤ k → z_f1 (o_P p S) (o_val p) k v → z_T 259 49 [.inr (.inr 131), .inl u, .inl w, .inl (S : Int), .inl c, .inl v, .inl ((p.toNat - 1 : Nat) : Int), .inl ki, d8, d9, d10] [] (z_st m3 g) Q := by
    intro d
    induction d with
    | zero =>
      intro k ki c a v m3 d8 d9 d10 hd hki hkn r1 r2 hc hck hv
      have hk : k = (p.toNat - 1) * (p.toNat - 1) * (p.toNat - 1) := by omega
      subst hki
      have e3 : ((p.toNat - 1 : Nat) : Int) * ((p.toNat - 1 : Nat) : Int) * ((p.toNat - 1 : Nat) : Int) = ((k : Nat) : Int) := by rw [hk]; norm_cast
      refine y_259_49 ?_
      rw [e3]
      refine ⟨(by unfold z_ok2; omega), fun _ => ⟨(by unfold z_ok; omega), fun hw0 => ?_, fun hw0 => ?_⟩, (fun h => absurd h (by omega))⟩
      · have := kk m3 c a v r1 (by rw [← hk]; exact hc) (by rw [← hk]; exact hv)
        rw [if_neg hw0] at this
        exact this
      · have := kk m3 c a v r1 (by rw [← hk]; exact hc) (by rw [← hk]; exact hv)
        rw [if_pos hw0] at this
        exact this
    | succ d ih =>
      intro k ki c a v m3 d8 d9 d10 hd hki hkn r1 r2 hc hck hv
      subst hki
      have c0 := (z_cn_c0 hc).1
      have e3 : ((p.toNat - 1 : Nat) : Int) * ((p.toNat - 1 : Nat) : Int) * ((p.toNat - 1 : Nat) : Int) = (((p.toNat - 1) * (p.toNat - 1) * (p.toNat - 1) : Nat) : Int) := by norm_cast
      have e2 : ((p.toNat - 1 : Nat) : Int) * ((p.toNat - 1 : Nat) : Int) = (((p.toNat - 1) * (p.toNat - 1) : Nat) : Int) := by norm_cast
      have eA : (k : Int) / (((p.toNat - 1) * (p.toNat - 1) : Nat) : Int) = ((k / ((p.toNat - 1) * (p.toNat - 1)) : Nat) : Int) := by norm_cast
      have eB0 : (k : Int) / ((p.toNat - 1 : Nat) : Int) = ((k / (p.toNat - 1) : Nat) : Int) := by norm_cast
      have eB : ((k / (p.toNat - 1) : Nat) : Int) % ((p.toNat - 1 : Nat) : Int) = ((k / (p.toNat - 1) % (p.toNat - 1) : Nat) : Int) := by norm_cast
      have eC : (k : Int) % ((p.toNat - 1 : Nat) : Int) = ((k % (p.toNat - 1) : Nat) : Int) := by norm_cast
      have bA : k / ((p.toNat - 1) * (p.toNat - 1)) < p.toNat - 1 := by
        rw [Nat.div_lt_iff_lt_mul q1p, ← Nat.mul_assoc]
        omega
      have bB := Nat.mod_lt (k / (p.toNat - 1)) (y := p.toNat - 1) (by omega)
      have bB0 := Nat.div_le_self k (p.toNat - 1)
      have bB1 : 0 ≤ ((k / (p.toNat - 1) : Nat) : Int) := Int.natCast_nonneg _
      have bC := Nat.mod_lt k (y := p.toNat - 1) (by omega)
      refine y_259_49 ?_
      rw [e3, e2, eA, eB0, eB, eC]
      refine ⟨(by unfold z_ok2; omega), (fun h => absurd h (by omega)), fun _ => ⟨by unfold z_dv; omega, by unfold z_dv; omega, by unfold z_dv; omega, by unfold z_dv; omega, ?_⟩⟩
      have hPk : o_P p S k ↔ x_dbl p (o_N S (1 + ((k / ((p.toNat - 1) * (p.toNat - 1)) : Nat) : Int)) (1 + ((k / (p.toNat - 1) % (p.toNat - 1) : Nat) : Int)) (1 + ((k % (p.toNat - 1) : Nat) : Int))) := Iff.rfl
      have hval : o_val p k = 10000 * (1 + ((k / ((p.toNat - 1) * (p.toNat - 1)) : Nat) : Int)) + 100 * (1 + ((k / (p.toNat - 1) % (p.toNat - 1) : Nat) : Int)) + (1 + ((k % (p.toNat - 1) : Nat) : Int)) := rfl
      generalize k / ((p.toNat - 1) * (p.toNat - 1)) = A at bA hPk hval
      generalize k / (p.toNat - 1) % (p.toNat - 1) = B at bB hPk hval
      generalize k % (p.toNat - 1) = C at bC hPk hval
      refine n_exponent (by omega) (by omega) (by omega) (y_259_83 ⟨⟨by omega, by omega⟩, n_exponent (by omega) (by omega) (by omega) (y_259_90 ⟨⟨by omega, by omega⟩, n_exponent (by omega) (by omega) (by omega) (y_259_97 ⟨⟨by omega, by omega⟩, ?_⟩)⟩)⟩)
      rw [show ((x_at S (0 : Int).toNat : Int)).toNat = x_at S 0 from Int.toNat_natCast _, show ((x_at S (1 : Int).toNat : Int)).toNat = x_at S 1 from Int.toNat_natCast _, show ((x_at S (2 : Int).toNat : Int)).toNat = x_at S 2 from Int.toNat_natCast _]
      have g1 : ∀ a j, ¬ a = 138 → (q_upd (q_upd (q_upd m3 138 (x_at S 0) (1 + (A : Int))) 138 (x_at S 1) (1 + (B : Int))) 138 (x_at S 2) (1 + (C : Int))) a j = m a j := fun a j h => by rw [z_un (by omega), z_un (by omega), z_un (by omega)]; exact r1 a j h
      have g2 : ∀ e, e < 13 → ¬ e = x_at S 0 → ¬ e = x_at S 1 → ¬ e = x_at S 2 → (q_upd (q_upd (q_upd m3 138 (x_at S 0) (1 + (A : Int))) 138 (x_at S 1) (1 + (B : Int))) 138 (x_at S 2) (1 + (C : Int))) 138 e = 0 := fun e he n0 n1 n2 => by rw [z_un (by omega), z_un (by omega), z_un (by omega)]; exact r2 e he n0 n1 n2
      have g3 : t_R (q_upd (q_upd (q_upd m3 138 (x_at S 0) (1 + (A : Int))) 138 (x_at S 1) (1 + (B : Int))) 138 (x_at S 2) (1 + (C : Int))) 138 (o_N S (1 + (A : Int)) (1 + (B : Int)) (1 + (C : Int))) := fun e he => by
        unfold o_N
        by_cases n0 : e = x_at S 0
        · rw [if_pos n0, z_un (by omega), z_un (by omega), z_ue rfl n0]
        · by_cases n1 : e = x_at S 1
          · rw [if_neg n0, if_pos n1, z_un (by omega), z_ue rfl n1]
          · by_cases n2 : e = x_at S 2
            · rw [if_neg n0, if_neg n1, if_pos n2, z_ue rfl n2]
            · rw [if_neg n0, if_neg n1, if_neg n2]; exact g2 e he n0 n1 n2
      generalize (q_upd (q_upd (q_upd m3 138 (x_at S 0) (1 + (A : Int))) 138 (x_at S 1) (1 + (B : Int))) 138 (x_at S 2) (1 + (C : Int))) = m4 at g1 g2 g3
      refine n_isDouble (pf m4 g1) g3 (fun i _ => (o_N_N h3 hp ⟨by omega, by omega⟩ ⟨by omega, by omega⟩ ⟨by omega, by omega⟩).1 i) (fun hy => y_259_101 ⟨(by unfold z_ok; omega), fun _ => ⟨(by unfold z_ok; omega), fun hc0 => ?_, fun hc0 => ?_⟩, (fun h => absurd h (by omega))⟩) (fun hn => y_259_101 ⟨(by unfold z_ok; omega), (fun h => absurd h (by omega)), fun _ => ih (k + 1) _ c a v m4 _ _ _ (by omega) (by omega) (by omega) g1 g2 (z_cn_up' hc (fun h => hn (hPk.1 h))) (by omega) ?_⟩)
      · have hc2 := z_cn_up hc (by omega) (hPk.2 hy)
        refine ih (k + 1) _ (c + 1) _ v m4 _ _ _ (by omega) (by omega) (by omega) g1 g2 hc2 (by omega) ?_
        rcases hv with ⟨k', v1, v2, v3, v4⟩ | ⟨v1, v2⟩
        · exact Or.inl ⟨k', by omega, v2, v3, v4⟩
        · obtain ⟨j, hj, hPj⟩ := (z_cn_c0 hc).2.2 hc0
          exact absurd hPj (v1 j hj)
      · have hc2 := z_cn_up hc (by omega) (hPk.2 hy)
        refine ih (k + 1) _ (c + 1) _ _ m4 _ _ _ (by omega) (by omega) (by omega) g1 g2 hc2 (by omega) ?_
        exact Or.inl ⟨k, by omega, hPk.2 hy, (z_cn_c0 hc).2.1 hc0, hval.symm⟩
      · rcases hv with ⟨k', v1, v2, v3, v4⟩ | ⟨v1, v2⟩
        · exact Or.inl ⟨k', by omega, v2, v3, v4⟩
        · exact Or.inr ⟨fun j hj h => by
            by_cases hjk : j = k
            · subst hjk; exact hn (hPk.1 h)
            · exact v1 j (by omega) h, v2⟩
  have clr : ∀ (d k : Nat) (ki : Int) (m3 : z_M), 13 - k = d → ki = (k : Int) → k ≤ 13 → (∀ a j, ¬ a = 138 → m3 a j = m a j) → (∀ e, e < k → m3 138 e = 0) → z_T 259 32 [.inr (.inr 131), .inl u, .inl w, .inl (S : Int), .inl 0, .inl (-5), .inl ki, q_dead, q_dead, q_dead, q_dead] [] (z_st m3 g) Q := by
    intro d
    induction d with
    | zero =>
      intro k ki m3 hd hki hkn r1 r2
      refine y_259_32 ⟨(by unfold z_ok2; omega), fun _ => n_p (pf m3 r1) (y_259_44 ?_), (fun h => absurd h (by omega))⟩
      rw [show p - 1 = ((p.toNat - 1 : Nat) : Int) by omega]
      exact main _ 0 0 0 (-5) (-5) m3 _ _ _ rfl rfl (by omega) r1 (fun e he _ _ _ => r2 e (by omega)) z_cn_0 (by omega) (Or.inr ⟨fun j hj => absurd hj (by omega), rfl⟩)
    | succ d ih =>
      intro k ki m3 hd hki hkn r1 r2
      refine y_259_32 ⟨(by unfold z_ok2; omega), (fun h => absurd h (by omega)), fun _ => ⟨⟨by omega, by omega⟩, ih (k + 1) (ki + 1) _ (by omega) (by omega) (by omega) (fun a j h => by rw [z_un (by omega)]; exact r1 a j h) (fun e he => ?_)⟩⟩
      by_cases hek : e = k
      · rw [z_ue rfl (by omega)]
      · rw [z_un (by omega)]; exact r2 e (by omega)
  exact clr 13 0 0 m1 rfl rfl (by omega) f (fun e he => absurd he (by omega))
theorem p_all {L : Nat} {m : z_M} {g : z_g} {u w : Int} (hI : I L m g) (hu : z_ok u) (hw : z_ok w) : z_pI (I L) 124 259 [.inl u, .inl w] m g := by
  have hC := hI.2.2.2.1
  have hZ := hI.2.2.2.2.1
  have hV := hC.1
  have hR := hI.2.2.2.2.2.1
  have v1 := hV.2.1
  have hp := s_p_pr hV
  have hp5 := z_pr_le hp
  have e3 : m 131 3 = m 1 1 := hR.1.2.1
  have q0 := c_Q_refl hC.2.1 hZ
  have mno : ¬ (0 ≤ u ∧ u < m 1 1) → ∀ Q : q_V → q_S → Prop, Q (.inl (-1)) (z_st m g) → z_C 259 [.inr (.inr 131), .inl u, .inl w] (z_st m g) Q := fun hno Q k =>
    y_259 (n_isSupport hu e3 v1 (fun h0 h1 => absurd ⟨h0, h1⟩ hno) (fun _ => y_259_3 ⟨(by unfold z_ok; omega), fun _ => k, (fun h => absurd h (by omega))⟩))
  have mw : 0 ≤ u → u < m 1 1 → ¬ (0 ≤ w ∧ w ≤ 1) → ∀ Q : q_V → q_S → Prop, Q (.inl (-1)) (z_st m g) → z_C 259 [.inr (.inr 131), .inl u, .inl w] (z_st m g) Q := fun h0 h1 hno Q k =>
    y_259 (n_isSupport hu e3 v1 (fun _ _ => y_259_3 ⟨(by unfold z_ok; omega), (fun h => absurd h (by omega)), fun _ => n_isIn hw (by unfold z_ok; omega) (by unfold z_ok; omega) (fun h2 h3 => absurd ⟨h2, h3⟩ hno) (fun _ => y_259_8 ⟨(by unfold z_ok; omega), (fun h => absurd h (by omega)), fun _ => k⟩)⟩) (fun h => absurd ⟨h0, h1⟩ h))
  -- the model, where it counts
  have mgo : ∀ m1, c_Q m m1 → 0 ≤ u → u < m 1 1 → 0 ≤ w → w ≤ 1 → ∀ Q : q_V → q_S → Prop, (¬ (x_many (s_U m u) = 3 ∧ s_p m ≤ 13) → Q (.inl (-3)) (z_st m1 g)) → (x_many (s_U m u) = 3 → s_p m ≤ 13 → z_T 259 32 [.inr (.inr 131), .inl u, .inl w, .inl (s_U m u : Int), .inl 0, .inl (-5), .inl 0, q_dead, q_dead, q_dead, q_dead] [] (z_st m1 g) Q) → z_C 259 [.inr (.inr 131), .inl u, .inl w] (z_st m1 g) Q := by
    intro m1 f h0 h1 w0 w1 Q k3 kk
    obtain ⟨-, hx⟩ := s_U_V hV h0 h1
    have h8 := hx.1
    have h13 := x_many_13 (s_U m u)
    refine y_259 (n_isSupport hu (by rw [f.1 131 3 (by omega)]; exact e3) v1 (fun _ _ => y_259_3 ⟨(by unfold z_ok; omega), (fun h => absurd h (by omega)), fun _ => n_isIn hw (by unfold z_ok; omega) (by unfold z_ok; omega) (fun _ _ => y_259_8 ⟨(by unfold z_ok; omega), fun _ => ⟨⟨by omega, by omega⟩, ?_⟩, (fun h => absurd h (by omega))⟩) (fun h => absurd ⟨w0, w1⟩ h)⟩) (fun h => absurd ⟨h0, h1⟩ h))
    rw [n_U hV hR f h0 h1]
    exact n_many (by omega) (y_259_18 ⟨(by unfold z_ok2; omega), fun h => k3 (fun hh => h (by omega)), fun h => n_p (I_nP hV hR (c_Q_fr f)) (y_259_22 ⟨(by unfold z_ok2; omega), fun hp13 => kk (by omega) hp13, fun hp13 => k3 (fun hh => by omega)⟩)⟩)
  refine y_124 (c_isSupportB hu hV (fun h0 h1 => y_124_3 ⟨(by unfold z_ok; omega), (fun h => absurd h (by omega)), fun _ => ⟨hw, fun hw0 => ⟨-1, m, g, rfl, rfl, fun _ => rfl, rfl, mw h0 h1 (by omega) _ (p_m rfl hI)⟩, fun w0 => ⟨by unfold z_ok at hw; unfold z_ok2; omega, fun w1 => ⟨⟨by omega, by omega⟩, ?_⟩, fun hw1 => ⟨-1, m, g, rfl, rfl, fun _ => rfl, rfl, mw h0 h1 (by omega) _ (p_m rfl hI)⟩⟩⟩⟩) (fun hno => y_124_3 ⟨(by unfold z_ok; omega), fun _ => ⟨-1, m, g, rfl, rfl, fun _ => rfl, rfl, mno hno _ (p_m rfl hI)⟩, (fun h => absurd h (by omega))⟩))
  obtain ⟨eU, hx⟩ := s_U_V hV h0 h1
  have h8 := hx.1
  have h13 := x_many_13 (s_U m u)
  rw [eU]
  refine c_bitCount rfl (by omega) (y_124_17 ?_)
  rw [r_bc_many h8]
  refine ⟨(by unfold z_ok2; omega), fun h => ⟨-3, m, g, rfl, rfl, fun _ => rfl, rfl, mgo m q0 h0 h1 w0 w1 _ (fun _ => p_m rfl hI) (fun h3 _ => absurd (by omega) h)⟩, fun h3 => c_modulus' hC (y_124_22 ⟨(by unfold z_ok2; omega), fun p13 => c_modulus' hC (y_124_31 (c_fbecome hp hC.2.1 fun m1 f1 hF => y_124_32 ⟨⟨by omega, by omega⟩, ?_⟩)), fun hb => ⟨-3, m, g, rfl, rfl, fun _ => rfl, rfl, mgo m q0 h0 h1 w0 w1 _ (fun _ => p_m rfl hI) (fun _ h => absurd h (by omega))⟩⟩)⟩
  rw [f1 2 _ (by omega), eU]
  refine c_tbecome (by omega) hx.2.2 fun m2 f2 hE2 g4 g5 g6 => y_124_40 ?_
  have hF2 : t_F m2 (s_p m) := t_F_sam hF (b := 65) (h := 68) (by decide) f2
  have fin : ∀ m3, t_sam 68 68 m2 m3 → c_Q m m3 := fun m3 f3 => ⟨fun b j h => by rw [f3 b j (by omega), f2 b j (by omega), f1 b j (by omega)], Or.inr ⟨_, t_F_sam hF2 (by decide) f3⟩, by show _ = _; rw [f3 72 12 (by omega), f2 72 12 (by omega), f1 72 12 (by omega)]; exact hZ⟩
  have h3' : x_many (s_U m u) = 3 := by omega
  refine ⟨(by unfold z_ok; omega), fun hw0 => ?_, fun hw0 => ?_⟩
  · refine c_firstAll h3' hF2 hE2 p13 fun m3 v f3 hv => y_124_47 ⟨v, m3, g, rfl, rfl, fun j => (fin m3 f3).1 1001 j (by omega), rfl, mgo m3 (fin m3 f3) h0 h1 w0 w1 _ (fun h => absurd ⟨h3', p13⟩ h) fun _ _ => n_all (m := m3) (I_nP hV hR (c_Q_fr (fin m3 f3))) h3' h8 p13 (by omega) (fun _ _ _ => rfl) fun m4 c' a' v' f4 hc' hv' => ?_⟩
    rw [if_neg hw0]
    exact p_m (z_f1_uni hv hv') (I_q hI (fin m3 f3) (fun b j h => f4 b j (fun h2 => h (by omega))))
  · refine c_countAll h3' hF2 hE2 p13 fun m3 c a f3 hc => y_124_44 (y_124_47 ⟨c, m3, g, rfl, rfl, fun j => (fin m3 f3).1 1001 j (by omega), rfl, mgo m3 (fin m3 f3) h0 h1 w0 w1 _ (fun h => absurd ⟨h3', p13⟩ h) fun _ _ => n_all (m := m3) (I_nP hV hR (c_Q_fr (fin m3 f3))) h3' h8 p13 (by omega) (fun _ _ _ => rfl) fun m4 c' a' v' f4 hc' hv' => ?_⟩)
    rw [if_pos hw0]
    exact p_m (z_cn_uni hc hc').1 (I_q hI (fin m3 f3) (fun b j h => f4 b j (fun h2 => h (by omega))))
