/-! PAIRS: list, put, get, copy -/
theorem I_lists {L : Nat} {m m' : z_M} {g : z_g} (h : I L m g) (f : ∀ a j, ¬ ((116 ≤ a ∧ a ≤ 120) ∨ a = 161 ∨ a = 162 ∨ a = 163) → m' a j = m a j) (hL : i_L m') : I L m' g := by
  obtain ⟨h1, h2, h3, ⟨h4, hT, h5⟩, hZ, h6, h7, h8, h9, h10, h11, h12⟩ := h
  have hvp := i_vp h1
  exact ⟨h1, i_Sc_of (fun j => f 1001 j (by omega)) h2, i_D_of (fun a j _ _ => f a j (by omega)) h3, ⟨i_V_of (fun a j _ _ => f a j (by omega)) h4, i_T_of (fun a j _ _ => f a j (by omega)) hT, i_P_of (fun j => f 1002 j (by omega)) h5⟩, by show _ = _; rw [f 72 12 (by omega)]; exact hZ, i_R_of (fun a j _ => f a j (by omega)) h6, i_K_of (fun a j _ => f a j (by omega)) h7, i_St_of (fun a j _ => f a j (by omega)) h8, hL, i_X_of (fun a j _ => f a j (by omega)) h10, i_W_of (fun a j _ => f a j (by omega)) h11, i_F_of (fun a j _ => f a j (by omega)) h12⟩
theorem c_isList {m : z_M} {g : z_g} {Q : q_V → q_S → Prop} {a : Int} (ha : z_ok a) (k1 : 0 ≤ a → a < 4 → Q (.inl 1) (z_st m g)) (k0 : ¬ (0 ≤ a ∧ a < 4) → Q (.inl 0) (z_st m g)) : z_C 92 [.inr (.inr 114), .inl a] (z_st m g) Q :=
  y_92 ⟨ha, fun h => k0 (by omega), fun h => ⟨by unfold z_ok at ha; unfold z_ok2; omega, fun h1 => k0 (by omega), fun h1 => k1 h h1⟩⟩
theorem n_isList {m : z_M} {g : z_g} {Q : q_V → q_S → Prop} {a : Int} (ha : z_ok a) (k1 : 0 ≤ a → a < 4 → Q (.inl 1) (z_st m g)) (k0 : ¬ (0 ≤ a ∧ a < 4) → Q (.inl 0) (z_st m g)) : z_C 241 [.inl a] (z_st m g) Q :=
  y_241 (n_isIn ha (by unfold z_ok; omega) (by unfold z_ok; omega) (fun h1 h2 => y_241_4 ⟨Or.inr rfl, k1 h1 (by omega)⟩) (fun h => y_241_4 ⟨Or.inl rfl, k0 (by omega)⟩))
/-- a list's length as the code asks for it -/
def r_len (m : z_M) (a : Int) : Int := if 0 ≤ a ∧ a < 4 then m 120 a.toNat else -1
theorem r_len_rng {m : z_M} {a : Int} (hL : i_L m) : -1 ≤ r_len m a ∧ r_len m a ≤ 20 := by
  unfold r_len
  split
  · rename_i h
    have := hL a.toNat (by omega)
    omega
  · omega
theorem r_len_in {m : z_M} {a : Int} (h : 0 ≤ r_len m a) : (0 ≤ a ∧ a < 4) ∧ r_len m a = m 120 a.toNat := by
  unfold r_len at h ⊢
  split
  · rename_i h1
    exact ⟨h1, rfl⟩
  · rename_i h1
    rw [if_neg h1] at h
    omega
theorem c_len {m : z_M} {g : z_g} {Q : q_V → q_S → Prop} {a : Int} (ha : z_ok a) (k : Q (.inl (r_len m a)) (z_st m g)) : z_C 95 [.inr (.inr 114), .inl a] (z_st m g) Q := by
  unfold r_len at k
  refine y_95 (c_isList ha (fun h0 h1 => y_95_3 ⟨(by unfold z_ok; omega), (fun h => absurd h (by omega)), fun _ => ⟨⟨by omega, by omega⟩, ?_⟩⟩) (fun h => y_95_3 ⟨(by unfold z_ok; omega), fun _ => ?_, (fun h => absurd h (by omega))⟩))
  · rw [if_pos ⟨h0, h1⟩] at k; exact k
  · rw [if_neg h] at k; exact k
theorem c_isMade {m : z_M} {g : z_g} {Q : q_V → q_S → Prop} {a : Int} (ha : z_ok a) (hL : i_L m) (k1 : 0 ≤ r_len m a → Q (.inl 1) (z_st m g)) (k0 : r_len m a < 0 → Q (.inl 0) (z_st m g)) : z_C 94 [.inr (.inr 114), .inl a] (z_st m g) Q := by
  have hr := r_len_rng (a := a) hL
  exact y_94 (c_len ha (y_94_3 ⟨by unfold z_ok; omega, k0, k1⟩))
theorem c_isPlace {m : z_M} {g : z_g} {Q : q_V → q_S → Prop} {a b : Int} (ha : z_ok a) (hb : z_ok b) (hL : i_L m) (k1 : 0 ≤ b → b < r_len m a → Q (.inl 1) (z_st m g)) (k0 : ¬ (0 ≤ b ∧ b < r_len m a) → Q (.inl 0) (z_st m g)) : z_C 98 [.inr (.inr 114), .inl a, .inl b] (z_st m g) Q := by
  have hr := r_len_rng (a := a) hL
  exact y_98 ⟨hb, fun h => k0 (by omega), fun h0 => c_len ha (y_98_6 ⟨by unfold z_ok at hb; unfold z_ok2; omega, fun h => k0 (by omega), fun h => k1 h0 h⟩)⟩
/-- fill of a list -/
theorem c_fillL {m : z_M} {g : z_g} {Q : q_V → q_S → Prop} {o n : Nat} {v : Int} (ho : o < 1000) (hsh : (q_sh0 ++ g.2.2.1)[o]? = some (1, n)) (hn : n ≤ 65536) (kk : ∀ m', (∀ a j, ¬ (a = o ∧ j < n) → m' a j = m a j) → (∀ j, j < n → m' o j = v) → Q q_dead (z_st m' g)) : z_C 179 [.inr (.inr o), .inr (.inl v)] (z_st m g) Q := by
  have loop : ∀ (d e : Nat) (ei : Int) (m1 : z_M), n - e = d → ei = (e : Int) → e ≤ n → (∀ a j, ¬ (a = o ∧ j < n) → m1 a j = m a j) → (∀ j, j < e → m1 o j = v) → z_T 179 5 [.inr (.inr o), .inr (.inl v), q_dead, .inl ei, .inl (n : Int)] [] (z_st m1 g) Q := by
    intro d
    induction d with
    | zero => exact fun e ei m1 hd hei hen f1 f2 => y_179_5 (n := n) ⟨(by unfold z_ok2; omega), fun _ => kk m1 f1 (fun j hj => f2 j (by omega)), (fun h => absurd h (by omega))⟩
    | succ d ih =>
      intro e ei m1 hd hei hen f1 f2
      refine y_179_5 (n := n) ⟨(by unfold z_ok2; omega), (fun h => absurd h (by omega)), fun _ => ⟨ho, ⟨ho, hsh⟩, ⟨by omega, by omega⟩, ih (e + 1) (ei + 1) _ (by omega) (by omega) (by omega) (fun a j h => by rw [z_un (by omega)]; exact f1 a j h) (fun j hj => ?_)⟩⟩
      by_cases hje : j = e
      · rw [hje, z_ue rfl (by omega)]
      · rw [z_un (by omega)]; exact f2 j (by omega)
  exact y_179 (n := n) ⟨ho, ⟨ho, hsh⟩, by decide, loop n 0 0 m rfl rfl (by omega) (fun _ _ _ => rfl) (fun j hj => absurd hj (by omega))⟩
theorem p_list {L : Nat} {m : z_M} {g : z_g} {a n : Int} (hI : I L m g) (ha : z_ok a) (hn : z_ok n) : z_pI (I L) 177 286 [.inl a, .inl n] m g := by
  have hh := hI
  obtain ⟨hg, hSc, hD, ⟨hV, hT, hP⟩, hZ, hR, hK, hSt, hL, hX, hW, hF⟩ := hh
  have hn' := hn
  unfold z_ok at hn'
  refine y_177 (c_isList ha (fun h0 h1 => y_177_4 ⟨(by unfold z_ok; omega), fun _ => ⟨(by unfold z_ok2; omega), fun h2 => ⟨hn, fun h3 => y_178 (c_isList ha (fun _ _ => y_178_3 ⟨(by unfold z_ok; omega), (fun h => absurd h (by omega)), fun _ => ⟨⟨by omega, by omega⟩, z_rw115 h0 h1, ⟨by omega, trivial⟩, c_fillL (by omega) (z_sp115 (t := g.2.2.1) h1).2 (by decide) fun m1 f1 f2 => y_178_15 (y_177_21 ?_)⟩⟩) (fun h => absurd ⟨h0, h1⟩ h)), fun h3 => ⟨-14, m, g, rfl, rfl, fun _ => rfl, rfl, y_286 (n_isList ha (fun _ _ => y_286_2 ⟨(by unfold z_ok; omega), fun _ => ⟨(by unfold z_ok2; omega), fun _ => ⟨hn, (fun h => absurd h (by omega)), fun _ => p_m rfl hI⟩, (fun h => absurd h (by omega))⟩, (fun h => absurd h (by omega))⟩) (fun h => absurd ⟨h0, h1⟩ h))⟩⟩, fun h2 => ⟨-2, m, g, rfl, rfl, fun _ => rfl, rfl, y_286 (n_isList ha (fun _ _ => y_286_2 ⟨(by unfold z_ok; omega), fun _ => ⟨(by unfold z_ok2; omega), (fun h => absurd h (by omega)), fun _ => p_m rfl hI⟩, (fun h => absurd h (by omega))⟩) (fun h => absurd ⟨h0, h1⟩ h))⟩⟩, (fun h => absurd h (by omega))⟩) (fun hno => y_177_4 ⟨(by unfold z_ok; omega), (fun h => absurd h (by omega)), fun _ => ⟨-1, m, g, rfl, rfl, fun _ => rfl, rfl, y_286 (n_isList ha (fun h0 h1 => absurd ⟨h0, h1⟩ hno) (fun _ => y_286_2 ⟨(by unfold z_ok; omega), (fun h => absurd h (by omega)), fun _ => p_m rfl hI⟩))⟩⟩))
  have fr : ∀ b j, ¬ (b = 116 + a.toNat ∧ j < 20) → ¬ (b = 120 ∧ j = a.toNat) → m1 b j = m b j := fun b j h2 h3 => by rw [f1 b j h2, z_un h3]
  refine ⟨1, m1, g, rfl, rfl, fun j => fr 1001 j (by omega) (by omega), rfl, y_286 (n_isList ha (fun _ _ => y_286_2 ⟨(by unfold z_ok; omega), fun _ => ⟨(by unfold z_ok2; omega), fun _ => ⟨hn, fun _ => ⟨⟨by omega, by omega⟩, ?_⟩, (fun h => absurd h (by omega))⟩, (fun h => absurd h (by omega))⟩, (fun h => absurd h (by omega))⟩) (fun h => absurd ⟨h0, h1⟩ h))⟩
  have loop : ∀ (d e : Nat) (ei : Int) (m2 : z_M), 20 - e = d → ei = (e : Int) → e ≤ 20 → (∀ b j, ¬ (b = 162 ∧ 20 * a.toNat ≤ j ∧ j < 20 * a.toNat + 20) → ¬ (b = 161 ∧ j = a.toNat) → m2 b j = m1 b j) → (∀ j, j < e → m2 162 (20 * a.toNat + j) = 0) → m2 161 a.toNat = n → z_T 286 21 [.inr (.inr 131), .inl a, .inl n, .inl ei] [] (z_st m2 g) (fun r' S'' => ∃ v' m2 g2, r' = .inl v' ∧ S'' = z_st m2 g2 ∧ q_w 1 = q_w v' ∧ I L m2 g2) := by
    intro d
    induction d with
    | zero =>
      intro e ei m2 hd hei hen q1 q2 q3
      refine y_286_21 ⟨(by unfold z_ok2; omega), fun _ => p_m rfl (I_lists hI (fun b j h => by rw [q1 b j (by omega) (by omega), fr b j (by omega) (by omega)]) fun l hl => ?_), (fun h => absurd h (by omega))⟩
      obtain ⟨b1, b2, b3, b4⟩ := hL l hl
      by_cases hla : l = a.toNat
      · have e1 : m2 120 l = n := by rw [q1 120 l (by omega) (by omega), hla, f1 120 _ (by omega), z_ue rfl rfl]
        refine ⟨by rw [e1]; omega, by rw [e1]; omega, by rw [e1, hla]; exact q3, fun i hi => ?_⟩
        have e2 : m2 (116 + l) i = 0 := by rw [q1 _ i (by omega) (by omega), hla]; exact f2 i hi
        rw [e2, hla]
        exact ⟨q2 i (by omega), by unfold z_okl; omega⟩
      · have e1 : m2 120 l = m 120 l := by rw [q1 120 l (by omega) (by omega), fr 120 l (by omega) (by omega)]
        refine ⟨by rw [e1]; omega, by rw [e1]; omega, by rw [e1, q1 161 l (by omega) (by omega), fr 161 l (by omega) (by omega)]; exact b3, fun i hi => ?_⟩
        rw [q1 162 _ (by omega) (by omega), q1 (116 + l) i (by omega) (by omega), fr 162 _ (by omega) (by omega), fr (116 + l) i (by omega) (by omega)]
        exact b4 i hi
    | succ d ih =>
      intro e ei m2 hd hei hen q1 q2 q3
      refine y_286_21 ⟨(by unfold z_ok2; omega), (fun h => absurd h (by omega)), fun _ => ⟨⟨by omega, by omega⟩, ih (e + 1) (ei + 1) _ (by omega) (by omega) (by omega) (fun b j h2 h3 => by rw [z_un (by omega)]; exact q1 b j h2 h3) (fun j hj => ?_) (by rw [z_un (by omega)]; exact q3)⟩⟩
      by_cases hje : j = e
      · rw [hje, z_ue rfl (by omega)]
      · rw [z_un (by omega)]; exact q2 j (by omega)
  exact loop 20 0 0 _ rfl rfl (by omega) (fun b j h2 h3 => z_un (by omega)) (fun j hj => absurd hj (by omega)) (z_ue rfl rfl)
theorem p_put {L : Nat} {m : z_M} {g : z_g} {a b v : Int} (hI : I L m g) (ha : z_ok a) (hb : z_ok b) (hv : z_okl v) : z_pI (I L) 180 287 [.inl a, .inl b, .inr (.inl v)] m g := by
  have hh := hI
  obtain ⟨hg, hSc, hD, ⟨hV, hT, hP⟩, hZ, hR, hK, hSt, hL, hX, hW, hF⟩ := hh
  have hr := r_len_rng (a := a) hL
  refine y_180 (c_isList ha (fun h0 h1 => y_180_4 ⟨(by unfold z_ok; omega), fun _ => c_isMade ha hL (fun h2 => y_180_11 ⟨(by unfold z_ok; omega), fun _ => c_isPlace ha hb hL (fun h3 h4 => y_180_19 ⟨(by unfold z_ok; omega), fun _ => ?_, (fun h => absurd h (by omega))⟩) (fun h3 => y_180_19 ⟨(by unfold z_ok; omega), (fun h => absurd h (by omega)), fun _ => ?_⟩), (fun h => absurd h (by omega))⟩) (fun h2 => y_180_11 ⟨(by unfold z_ok; omega), (fun h => absurd h (by omega)), fun _ => ?_⟩), (fun h => absurd h (by omega))⟩) (fun hno => y_180_4 ⟨(by unfold z_ok; omega), (fun h => absurd h (by omega)), fun _ => ⟨-1, m, g, rfl, rfl, fun _ => rfl, rfl, y_287 (n_isList ha (fun h0 h1 => absurd ⟨h0, h1⟩ hno) (fun _ => y_287_2 ⟨(by unfold z_ok; omega), (fun h => absurd h (by omega)), fun _ => p_m rfl hI⟩))⟩⟩))
  · have el := (r_len_in h2).2
    have b3 := (hL a.toNat (by omega)).2.2.1
    have b2 := (hL a.toNat (by omega)).2.1
    refine ⟨z_rw115 h0 h1, z_sp115 h1, ⟨by omega, by omega⟩, 1, _, g, rfl, rfl, fun j => z_un (by omega), rfl, y_287 (n_isList ha (fun _ _ => y_287_2 ⟨(by unfold z_ok; omega), fun _ => ⟨⟨by omega, by omega⟩, ?_⟩, (fun h => absurd h (by omega))⟩) (fun h => absurd ⟨h0, h1⟩ h))⟩
    rw [show (q_upd m (116 + a.toNat) b.toNat v) 161 a.toNat = m 120 a.toNat by rw [z_un (by omega)]; exact b3]
    refine ⟨(by unfold z_ok; omega), fun _ => ⟨⟨by omega, by omega⟩, n_isIn hb (by unfold z_ok; omega) (by unfold z_ok; omega) (fun _ _ => y_287_21 ⟨(by unfold z_ok; omega), fun _ => ⟨⟨by omega, by omega⟩, p_m rfl (I_lists hI (fun c j h => by rw [z_un (by omega), z_un (by omega)]) fun l hl => ?_)⟩, (fun h => absurd h (by omega))⟩) (fun h => absurd ⟨h3, by omega⟩ h)⟩, (fun h => absurd h (by omega))⟩
    obtain ⟨c1, c2, c3, c4⟩ := hL l hl
    refine ⟨by rw [z_un (by omega), z_un (by omega)]; exact c1, by rw [z_un (by omega), z_un (by omega)]; exact c2, by rw [z_un (by omega), z_un (by omega), z_un (by omega), z_un (by omega)]; exact c3, fun i hi => ?_⟩
    by_cases hli : l = a.toNat ∧ i = b.toNat
    · rw [z_ue rfl (by omega), z_un (by omega), z_ue (by omega) hli.2]
      exact ⟨rfl, hv⟩
    · rw [z_un (by omega), z_un (by omega), z_un (by omega), z_un (by omega)]
      exact c4 i hi
  · have el := (r_len_in h2).2
    have b3 := (hL a.toNat (by omega)).2.2.1
    refine ⟨-13, m, g, rfl, rfl, fun _ => rfl, rfl, y_287 (n_isList ha (fun _ _ => y_287_2 ⟨(by unfold z_ok; omega), fun _ => ⟨⟨by omega, by omega⟩, ?_⟩, (fun h => absurd h (by omega))⟩) (fun h => absurd ⟨h0, h1⟩ h))⟩
    rw [b3]
    exact ⟨(by unfold z_ok; omega), fun _ => ⟨⟨by omega, by omega⟩, n_isIn hb (by unfold z_ok; omega) (by unfold z_ok; omega) (fun _ _ => absurd ⟨by omega, by omega⟩ h3) (fun _ => y_287_21 ⟨(by unfold z_ok; omega), (fun h => absurd h (by omega)), fun _ => p_m rfl hI⟩)⟩, (fun h => absurd h (by omega))⟩
  · have b3 := (hL a.toNat (by omega)).2.2.1
    have el : r_len m a = m 120 a.toNat := if_pos ⟨h0, h1⟩
    refine ⟨-11, m, g, rfl, rfl, fun _ => rfl, rfl, y_287 (n_isList ha (fun _ _ => y_287_2 ⟨(by unfold z_ok; omega), fun _ => ⟨⟨by omega, by omega⟩, ?_⟩, (fun h => absurd h (by omega))⟩) (fun h => absurd ⟨h0, h1⟩ h))⟩
    rw [b3]
    exact ⟨(by unfold z_ok; omega), (fun h => absurd h (by omega)), fun _ => p_m rfl hI⟩
theorem p_get {L : Nat} {m : z_M} {g : z_g} {a b : Int} (hI : I L m g) (ha : z_ok a) (hb : z_ok b) : z_pL (I L) 181 288 [.inl a, .inl b] m g := by
  have hh := hI
  obtain ⟨hg, hSc, hD, ⟨hV, hT, hP⟩, hZ, hR, hK, hSt, hL, hX, hW, hF⟩ := hh
  have hr := r_len_rng (a := a) hL
  refine y_181 (c_isPlace ha hb hL (fun h3 h4 => y_181_5 ⟨(by unfold z_ok; omega), (fun h => absurd h (by omega)), fun _ => ?_⟩) (fun hno => y_181_5 ⟨(by unfold z_ok; omega), fun _ => ?_, (fun h => absurd h (by omega))⟩))
  · obtain ⟨⟨h0, h1⟩, el⟩ := r_len_in (m := m) (a := a) (by omega)
    obtain ⟨b1, b2, b3, b4⟩ := hL a.toNat (by omega)
    have bb := (b4 b.toNat (by omega)).1
    refine ⟨z_rw115 h0 h1, z_sp115 h1, ⟨by omega, by omega⟩, _, m, g, rfl, rfl, fun _ => rfl, rfl, y_288 (n_isList ha (fun _ _ => y_288_2 ⟨(by unfold z_ok; omega), (fun h => absurd h (by omega)), fun _ => ⟨⟨by omega, by omega⟩, ?_⟩⟩) (fun h => absurd ⟨h0, h1⟩ h))⟩
    rw [b3]
    refine n_isIn hb (by unfold z_ok; omega) (by unfold z_ok; omega) (fun _ _ => y_288_12 ⟨(by unfold z_ok; omega), (fun h => absurd h (by omega)), fun _ => ⟨⟨by omega, by omega⟩, p_ml ?_ hI⟩⟩) (fun h => absurd ⟨h3, by omega⟩ h)
    rw [show ((20 : Int) * a + b).toNat = 20 * a.toNat + b.toNat by omega]
    exact bb.symm
  · refine ⟨_, m, g, rfl, rfl, fun _ => rfl, rfl, y_288 (n_isList ha (fun h0 h1 => y_288_2 ⟨(by unfold z_ok; omega), (fun h => absurd h (by omega)), fun _ => ⟨⟨by omega, by omega⟩, ?_⟩⟩) (fun h => y_288_2 ⟨(by unfold z_ok; omega), fun _ => p_ml rfl hI, (fun h => absurd h (by omega))⟩))⟩
    have b3 := (hL a.toNat (by omega)).2.2.1
    have b12 := hL a.toNat (by omega)
    have el : r_len m a = m 120 a.toNat := if_pos ⟨h0, h1⟩
    rw [b3]
    exact n_isIn hb (by unfold z_ok; omega) (by unfold z_ok; omega) (fun h5 h6 => absurd ⟨h5, by omega⟩ hno) (fun _ => y_288_12 ⟨(by unfold z_ok; omega), fun _ => p_ml rfl hI, (fun h => absurd h (by omega))⟩)
theorem p_copy {L : Nat} {m : z_M} {g : z_g} {a b c d n : Int} (hI : I L m g) (ha : z_ok a) (hb : z_ok b) (hc : z_ok c) (hd : z_ok d) (hn : z_ok n) : z_pI (I L) 182 289 [.inl a, .inl b, .inl c, .inl d, .inl n] m g := by
  have hh := hI
  obtain ⟨hg, hSc, hD, ⟨hV, hT, hP⟩, hZ, hR, hK, hSt, hL, hX, hW, hF⟩ := hh
  have hra := r_len_rng (a := a) hL
  have hrc := r_len_rng (a := c) hL
  have hb' := hb
  have hd' := hd
  have hn' := hn
  unfold z_ok at hb' hd' hn'
  -- what the model answers, by cases
  have mod : ∀ (m1 : z_M) (Q : q_V → q_S → Prop), m1 161 = m 161 → (¬ ((0 ≤ a ∧ a < 4) ∧ 0 ≤ c ∧ c < 4) → Q (.inl (-1)) (z_st m1 g)) → (((0 ≤ a ∧ a < 4) ∧ 0 ≤ c ∧ c < 4) → ¬ (0 ≤ r_len m a ∧ 0 ≤ r_len m c) → Q (.inl (-11)) (z_st m1 g)) → (((0 ≤ a ∧ a < 4) ∧ 0 ≤ c ∧ c < 4) → (0 ≤ r_len m a ∧ 0 ≤ r_len m c) → ¬ (0 ≤ n ∧ 0 ≤ b ∧ 0 ≤ d ∧ b + n ≤ r_len m a ∧ d + n ≤ r_len m c) → Q (.inl (-13)) (z_st m1 g)) → (((0 ≤ a ∧ a < 4) ∧ 0 ≤ c ∧ c < 4) → (0 ≤ n ∧ 0 ≤ b ∧ 0 ≤ d ∧ b + n ≤ r_len m a ∧ d + n ≤ r_len m c) → z_T 289 54 [.inr (.inr 131), .inl a, .inl b, .inl c, .inl d, .inl n, .inl 0] [] (z_st m1 g) Q) → z_C 289 [.inr (.inr 131), .inl a, .inl b, .inl c, .inl d, .inl n] (z_st m1 g) Q := by
    intro m1 Q e1 k1 k2 k3 k4
    refine y_289 (n_isList ha (fun h0 h1 => y_289_2 ⟨(by unfold z_ok; omega), (fun h => absurd h (by omega)), fun _ => n_isList hc (fun h2 h3 => y_289_5 ⟨(by unfold z_ok; omega), fun _ => ⟨⟨by omega, by omega⟩, ?_⟩, (fun h => absurd h (by omega))⟩) (fun h => y_289_5 ⟨(by unfold z_ok; omega), (fun h => absurd h (by omega)), fun _ => k1 (by omega)⟩)⟩) (fun h => y_289_2 ⟨(by unfold z_ok; omega), fun _ => k1 (by omega), (fun h => absurd h (by omega))⟩))
    have hin : (0 ≤ a ∧ a < 4) ∧ 0 ≤ c ∧ c < 4 := ⟨⟨h0, h1⟩, h2, h3⟩
    have ea : r_len m a = m 120 a.toNat := if_pos ⟨h0, h1⟩
    have ec : r_len m c = m 120 c.toNat := if_pos ⟨h2, h3⟩
    rw [e1, (hL a.toNat (by omega)).2.2.1, (hL c.toNat (by omega)).2.2.1]
    rw [ea, ec] at k2 k3 k4
    rw [ea] at hra
    rw [ec] at hrc
    generalize m 120 a.toNat = la at *
    generalize m 120 c.toNat = lc at *
    refine ⟨(by unfold z_ok; omega), fun h => k2 hin (by omega), fun h4 => ⟨⟨by omega, by omega⟩, (by unfold z_ok; omega), fun h5 => ⟨hn, fun h => k3 hin (by omega) (by omega), fun h6 => ⟨hb, fun h => k3 hin (by omega) (by omega), fun h7 => ⟨hd, fun h => k3 hin (by omega) (by omega), fun h8 => ⟨hb, hn, ⟨by omega, by omega⟩, (by unfold z_ok; omega), by unfold z_okl2; omega, by split <;> first | (unfold z_ok; omega) | (split <;> (unfold z_ok; omega)), fun h => k3 hin (by omega) ?_, fun h9 => ⟨hd, hn, ⟨by omega, by omega⟩, (by unfold z_ok; omega), by unfold z_okl2; omega, by split <;> first | (unfold z_ok; omega) | (split <;> (unfold z_ok; omega)), fun h10 => k4 hin ?_, fun h => k3 hin (by omega) ?_⟩⟩⟩⟩⟩, fun h => k2 hin (by omega)⟩⟩
    · split at h
      · omega
      · split at h
        · omega
        · omega
    · refine ⟨h6, h7, h8, ?_, ?_⟩
      · split at h9
        · omega
        · split at h9
          · omega
          · omega
      · split at h10
        · omega
        · split at h10
          · omega
          · omega
    · split at h
      · omega
      · split at h
        · omega
        · omega
  have bad : ∀ v : Int, ((¬ ((0 ≤ a ∧ a < 4) ∧ 0 ≤ c ∧ c < 4) ∧ v = -1) ∨ (((0 ≤ a ∧ a < 4) ∧ 0 ≤ c ∧ c < 4) ∧ ¬ (0 ≤ r_len m a ∧ 0 ≤ r_len m c) ∧ v = -11) ∨ (((0 ≤ a ∧ a < 4) ∧ 0 ≤ c ∧ c < 4) ∧ (0 ≤ r_len m a ∧ 0 ≤ r_len m c) ∧ ¬ (0 ≤ n ∧ 0 ≤ b ∧ 0 ≤ d ∧ b + n ≤ r_len m a ∧ d + n ≤ r_len m c) ∧ v = -13)) → ∃ v' m1 g1, (.inl v : q_V) = .inl v' ∧ z_st m g = z_st m1 g1 ∧ (∀ j, m1 1001 j = m 1001 j) ∧ g1.1 = g.1 ∧ z_C 289 [.inr (.inr 131), .inl a, .inl b, .inl c, .inl d, .inl n] (z_st m1 g1) (fun r' S'' => ∃ v'' m2 g2, r' = .inl v'' ∧ S'' = z_st m2 g2 ∧ q_w v' = q_w v'' ∧ I L m2 g2) := by
    intro v hv
    refine ⟨v, m, g, rfl, rfl, fun _ => rfl, rfl, mod m _ rfl (fun h => ?_) (fun h h2 => ?_) (fun h h2 h3 => ?_) (fun h h2 => ?_)⟩
    · rcases hv with hv | hv | hv
      · exact p_m hv.2 hI
      · exact absurd hv.1 h
      · exact absurd hv.1 h
    · rcases hv with hv | hv | hv
      · exact absurd h hv.1
      · exact p_m hv.2.2 hI
      · exact absurd hv.2.1 h2
    · rcases hv with hv | hv | hv
      · exact absurd h hv.1
      · exact absurd h2 hv.2.1
      · exact p_m hv.2.2.2 hI
    · rcases hv with hv | hv | hv
      · exact absurd h hv.1
      · exact absurd (by omega) hv.2.1
      · exact absurd h2 hv.2.2.1
  refine y_182 (c_isList ha (fun h0 h1 => y_182_4 ⟨(by unfold z_ok; omega), (fun h => absurd h (by omega)), fun _ => c_isList hc (fun h2 h3 => y_182_9 ⟨(by unfold z_ok; omega), fun _ => c_isMade ha hL (fun h4 => y_182_16 ⟨(by unfold z_ok; omega), (fun h => absurd h (by omega)), fun _ => c_isMade hc hL (fun h5 => y_182_21 ⟨(by unfold z_ok; omega), fun _ => ⟨hn, fun h => bad _ (by omega), fun h6 => ⟨hb, fun h => bad _ (by omega), fun h7 => ⟨hd, fun h => bad _ (by omega), fun h8 => c_len ha (y_182_35 ⟨(by unfold z_ok2; omega), fun h => bad _ (by omega), fun h9 => c_len hc (y_182_43 ⟨(by unfold z_ok2; omega), fun h10 => ?_, fun h => bad _ (by omega)⟩)⟩)⟩⟩⟩, (fun h => absurd h (by omega))⟩) (fun h5 => y_182_21 ⟨(by unfold z_ok; omega), (fun h => absurd h (by omega)), fun _ => bad _ (by omega)⟩)⟩) (fun h4 => y_182_16 ⟨(by unfold z_ok; omega), fun _ => bad _ (by omega), (fun h => absurd h (by omega))⟩), (fun h => absurd h (by omega))⟩) (fun h => y_182_9 ⟨(by unfold z_ok; omega), (fun h => absurd h (by omega)), fun _ => bad _ (by omega)⟩)⟩) (fun h => y_182_4 ⟨(by unfold z_ok; omega), fun _ => bad _ (by omega), (fun h => absurd h (by omega))⟩))
  refine ⟨z_rw115 h0 h1, z_rw115 h2 h3, ⟨z_sp115 h1, z_sp115 h3⟩, ⟨by omega, by omega, by omega, by omega, by omega⟩, n, _, g, rfl, rfl, fun j => ?_, rfl, ?_⟩
  · unfold q_cpy
    exact if_neg (by omega)
  have f1 : ∀ x j, ¬ (x = 116 + c.toNat ∧ d.toNat ≤ j ∧ j < d.toNat + n.toNat) → (q_cpy m (116 + a.toNat) b.toNat (116 + c.toNat) d.toNat n.toNat) x j = m x j := fun x j h => by
    unfold q_cpy
    exact if_neg (by omega)
  have f2 : ∀ j, j < n.toNat → (q_cpy m (116 + a.toNat) b.toNat (116 + c.toNat) d.toNat n.toNat) (116 + c.toNat) (d.toNat + j) = m (116 + a.toNat) (b.toNat + j) := fun j h => by
    unfold q_cpy
    rw [if_pos (by omega), show d.toNat + j - d.toNat = j by omega]
  generalize (q_cpy m (116 + a.toNat) b.toNat (116 + c.toNat) d.toNat n.toNat) = m1 at f1 f2
  refine mod m1 _ (funext fun j => f1 161 j (by omega)) (fun h => absurd ⟨⟨h0, h1⟩, h2, h3⟩ h) (fun _ h => absurd ⟨h4, h5⟩ h) (fun _ _ h => absurd ⟨h6, h7, h8, by omega, by omega⟩ h) (fun _ _ => ?_)
  obtain ⟨N, rfl⟩ := Int.eq_ofNat_of_zero_le h6
  have hN : (N : Int).toNat = N := rfl
  rw [hN] at f1 f2
  have loop2 : ∀ (k e : Nat) (ei : Int) (m2 : z_M), N - e = k → ei = (e : Int) → e ≤ N → (∀ x j, ¬ (x = 163) → ¬ (x = 162 ∧ 20 * c.toNat + d.toNat ≤ j ∧ j < 20 * c.toNat + d.toNat + N) → m2 x j = m1 x j) → (∀ j, j < N → m2 163 j = m1 162 (20 * a.toNat + b.toNat + j)) → (∀ j, j < e → m2 162 (20 * c.toNat + d.toNat + j) = m1 162 (20 * a.toNat + b.toNat + j)) → z_T 289 75 [.inr (.inr 131), .inl a, .inl b, .inl c, .inl d, .inl (N : Int), .inl ei] [] (z_st m2 g) (fun r' S'' => ∃ v' m2 g2, r' = .inl v' ∧ S'' = z_st m2 g2 ∧ q_w (N : Int) = q_w v' ∧ I L m2 g2) := by
    intro k
    induction k with
    | zero =>
      intro e ei m2 hd hei hen q1 q2 q3
      refine y_289_75 ⟨(by unfold z_ok2; omega), fun _ => p_m rfl (I_lists hI (fun x j h => by rw [q1 x j (by omega) (by omega), f1 x j (by omega)]) fun l hl => ?_), (fun h => absurd h (by omega))⟩
      obtain ⟨b1, b2, b3, b4⟩ := hL l hl
      refine ⟨?_, ?_, ?_, fun i hi => ?_⟩
      · rw [q1 120 l (by omega) (by omega), f1 120 l (by omega)]; exact b1
      · rw [q1 120 l (by omega) (by omega), f1 120 l (by omega)]; exact b2
      · rw [q1 120 l (by omega) (by omega), f1 120 l (by omega), q1 161 l (by omega) (by omega), f1 161 l (by omega)]; exact b3
      · by_cases hli : l = c.toNat ∧ d.toNat ≤ i ∧ i < d.toNat + N
        · obtain ⟨e1, e2, e3⟩ := hli
          have g1 := q3 (i - d.toNat) (by omega)
          rw [show 20 * c.toNat + d.toNat + (i - d.toNat) = 20 * l + i by omega, f1 162 _ (by omega)] at g1
          have g2 := f2 (i - d.toNat) (by omega)
          rw [show d.toNat + (i - d.toNat) = i by omega, ← e1] at g2
          rw [g1, q1 (116 + l) i (by omega) (by omega), g2]
          have g3 := (hL a.toNat (by omega)).2.2.2 (b.toNat + (i - d.toNat)) (by omega)
          rw [show 20 * a.toNat + (b.toNat + (i - d.toNat)) = 20 * a.toNat + b.toNat + (i - d.toNat) by omega] at g3
          exact g3
        · rw [q1 162 _ (by omega) (by omega), f1 162 _ (by omega), q1 (116 + l) i (by omega) (by omega), f1 (116 + l) i (by omega)]
          exact b4 i hi
    | succ k ih =>
      intro e ei m2 hd hei hen q1 q2 q3
      refine y_289_75 ⟨(by unfold z_ok2; omega), (fun h => absurd h (by omega)), fun _ => ⟨⟨by omega, by omega⟩, ⟨by omega, by omega⟩, ih (e + 1) (ei + 1) _ (by omega) (by omega) (by omega) (fun x j h2 h3 => by rw [z_un (by omega)]; exact q1 x j h2 h3) (fun j hj => by rw [z_un (by omega)]; exact q2 j hj) (fun j hj => ?_)⟩⟩
      by_cases hje : j = e
      · rw [z_ue rfl (by omega), q2 _ (by omega)]
        congr 1
        omega
      · rw [z_un (by omega)]; exact q3 j (by omega)
  have loop1 : ∀ (k e : Nat) (ei : Int) (m2 : z_M), N - e = k → ei = (e : Int) → e ≤ N → (∀ x j, ¬ (x = 163) → m2 x j = m1 x j) → (∀ j, j < e → m2 163 j = m1 162 (20 * a.toNat + b.toNat + j)) → z_T 289 54 [.inr (.inr 131), .inl a, .inl b, .inl c, .inl d, .inl (N : Int), .inl ei] [] (z_st m2 g) (fun r' S'' => ∃ v' m2 g2, r' = .inl v' ∧ S'' = z_st m2 g2 ∧ q_w (N : Int) = q_w v' ∧ I L m2 g2) := by
    intro k
    induction k with
    | zero => exact fun e ei m2 hd hei hen q1 q2 => y_289_54 ⟨(by unfold z_ok2; omega), fun _ => loop2 N 0 0 m2 rfl rfl (by omega) (fun x j h _ => q1 x j h) (fun j hj => q2 j (by omega)) (fun j hj => absurd hj (by omega)), (fun h => absurd h (by omega))⟩
    | succ k ih =>
      intro e ei m2 hd hei hen q1 q2
      refine y_289_54 ⟨(by unfold z_ok2; omega), (fun h => absurd h (by omega)), fun _ => ⟨⟨by omega, by omega⟩, ⟨by omega, by omega⟩, ih (e + 1) (ei + 1) _ (by omega) (by omega) (by omega) (fun x j h2 => by rw [z_un (by omega)]; exact q1 x j h2) (fun j hj => ?_)⟩⟩
      by_cases hje : j = e
      · rw [z_ue rfl (by omega), q1 162 _ (by omega)]
        congr 1
        omega
      · rw [z_un (by omega)]; exact q2 j (by omega)
  exact loop1 N 0 0 m1 rfl rfl (by omega) (fun _ _ _ => rfl) (fun j hj => absurd hj (by omega))
