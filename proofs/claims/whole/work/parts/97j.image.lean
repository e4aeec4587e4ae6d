/-! PAIRS: image, restore -/
theorem q_cp_e {m : z_M} {a i b j n k : Nat} (h1 : j ≤ k) (h2 : k < j + n) : q_cpy m a i b j n b k = m a (i + (k - j)) := if_pos ⟨rfl, h1, h2⟩
theorem q_cp_n {m : z_M} {a i b j n c k : Nat} (h : ¬ (c = b ∧ j ≤ k ∧ k < j + n)) : q_cpy m a i b j n c k = m c k := if_neg h
/-- a record as it stands in another -/
def t_like (m m' : z_M) (s d : Nat) : Prop := (m' d 0 = m s 0 ∧ m' d 1 = m s 1 ∧ m' d 3 = m s 3 ∧ m' d 8 = m s 8) ∧ (∀ i, i < 6 → m' (d + 1) i = m (s + 1) i ∧ m' (d + 2) i = m (s + 2) i ∧ m' (d + 3) i = m (s + 3) i ∧ m' (d + 4) i = m (s + 4) i) ∧ (∀ t e, t < 6 → e < 13 → m' (d + 6 + t) e = m (s + 6 + t) e) ∧ ∀ i, i < 4 → m' (d + 12) i = m (s + 12) i ∧ m' (d + 13) i = m (s + 13) i
theorem c_like_a {m : z_M} {g : z_g} {Q : q_V → q_S → Prop} (kk : ∀ m', (∀ x j, (x < 15 ∨ 28 < x) → m' x j = m x j) → t_like m m' 1 15 → Q q_dead (z_st m' g)) : z_C 184 [.inr (.inr 15), .inr (.inr 1)] (z_st m g) Q := by
  refine y_184a ⟨by decide, by decide, by decide, by decide, ?_⟩
  have F : ∀ x j, (x < 15 ∨ 19 < x) → (q_cpy (q_cpy (q_cpy (q_cpy (q_upd (q_upd (q_upd (q_upd m 15 0 (m 1 0)) 15 1 (m 1 1)) 15 3 (m 1 3)) 15 8 (m 1 8)) 2 (0 : Int).toNat 16 (0 : Int).toNat (6 : Int).toNat) 3 (0 : Int).toNat 17 (0 : Int).toNat (6 : Int).toNat) 4 (0 : Int).toNat 18 (0 : Int).toNat (6 : Int).toNat) 5 (0 : Int).toNat 19 (0 : Int).toNat (6 : Int).toNat) x j = m x j := fun x j h => by rw [q_cp_n (by omega), q_cp_n (by omega), q_cp_n (by omega), q_cp_n (by omega), z_un (by omega), z_un (by omega), z_un (by omega), z_un (by omega)]
  have G : ∀ j, (q_cpy (q_cpy (q_cpy (q_cpy (q_upd (q_upd (q_upd (q_upd m 15 0 (m 1 0)) 15 1 (m 1 1)) 15 3 (m 1 3)) 15 8 (m 1 8)) 2 (0 : Int).toNat 16 (0 : Int).toNat (6 : Int).toNat) 3 (0 : Int).toNat 17 (0 : Int).toNat (6 : Int).toNat) 4 (0 : Int).toNat 18 (0 : Int).toNat (6 : Int).toNat) 5 (0 : Int).toNat 19 (0 : Int).toNat (6 : Int).toNat) 15 j = (q_upd (q_upd (q_upd (q_upd m 15 0 (m 1 0)) 15 1 (m 1 1)) 15 3 (m 1 3)) 15 8 (m 1 8)) 15 j := fun j => by rw [q_cp_n (by omega), q_cp_n (by omega), q_cp_n (by omega), q_cp_n (by omega)]
  have G0 := G 0
  have G1 := G 1
  have G3 := G 3
  have G8 := G 8
  rw [z_un (by omega), z_un (by omega), z_un (by omega), z_ue rfl rfl] at G0
  rw [z_un (by omega), z_un (by omega), z_ue rfl rfl] at G1
  rw [z_un (by omega), z_ue rfl rfl] at G3
  rw [z_ue rfl rfl] at G8
  have K1 : ∀ j, j < 6 → (q_cpy (q_cpy (q_cpy (q_cpy (q_upd (q_upd (q_upd (q_upd m 15 0 (m 1 0)) 15 1 (m 1 1)) 15 3 (m 1 3)) 15 8 (m 1 8)) 2 (0 : Int).toNat 16 (0 : Int).toNat (6 : Int).toNat) 3 (0 : Int).toNat 17 (0 : Int).toNat (6 : Int).toNat) 4 (0 : Int).toNat 18 (0 : Int).toNat (6 : Int).toNat) 5 (0 : Int).toNat 19 (0 : Int).toNat (6 : Int).toNat) 16 j = m 2 j := fun j h => by
    rw [q_cp_n (by omega), q_cp_n (by omega), q_cp_n (by omega), q_cp_e (by omega) (by omega), z_un (by omega), z_un (by omega), z_un (by omega), z_un (by omega)]
    congr 1
    omega
  have K2 : ∀ j, j < 6 → (q_cpy (q_cpy (q_cpy (q_cpy (q_upd (q_upd (q_upd (q_upd m 15 0 (m 1 0)) 15 1 (m 1 1)) 15 3 (m 1 3)) 15 8 (m 1 8)) 2 (0 : Int).toNat 16 (0 : Int).toNat (6 : Int).toNat) 3 (0 : Int).toNat 17 (0 : Int).toNat (6 : Int).toNat) 4 (0 : Int).toNat 18 (0 : Int).toNat (6 : Int).toNat) 5 (0 : Int).toNat 19 (0 : Int).toNat (6 : Int).toNat) 17 j = m 3 j := fun j h => by
    rw [q_cp_n (by omega), q_cp_n (by omega), q_cp_e (by omega) (by omega), q_cp_n (by omega), z_un (by omega), z_un (by omega), z_un (by omega), z_un (by omega)]
    congr 1
    omega
  have K3 : ∀ j, j < 6 → (q_cpy (q_cpy (q_cpy (q_cpy (q_upd (q_upd (q_upd (q_upd m 15 0 (m 1 0)) 15 1 (m 1 1)) 15 3 (m 1 3)) 15 8 (m 1 8)) 2 (0 : Int).toNat 16 (0 : Int).toNat (6 : Int).toNat) 3 (0 : Int).toNat 17 (0 : Int).toNat (6 : Int).toNat) 4 (0 : Int).toNat 18 (0 : Int).toNat (6 : Int).toNat) 5 (0 : Int).toNat 19 (0 : Int).toNat (6 : Int).toNat) 18 j = m 4 j := fun j h => by
    rw [q_cp_n (by omega), q_cp_e (by omega) (by omega), q_cp_n (by omega), q_cp_n (by omega), z_un (by omega), z_un (by omega), z_un (by omega), z_un (by omega)]
    congr 1
    omega
  have K4 : ∀ j, j < 6 → (q_cpy (q_cpy (q_cpy (q_cpy (q_upd (q_upd (q_upd (q_upd m 15 0 (m 1 0)) 15 1 (m 1 1)) 15 3 (m 1 3)) 15 8 (m 1 8)) 2 (0 : Int).toNat 16 (0 : Int).toNat (6 : Int).toNat) 3 (0 : Int).toNat 17 (0 : Int).toNat (6 : Int).toNat) 4 (0 : Int).toNat 18 (0 : Int).toNat (6 : Int).toNat) 5 (0 : Int).toNat 19 (0 : Int).toNat (6 : Int).toNat) 19 j = m 5 j := fun j h => by
    rw [q_cp_e (by omega) (by omega), q_cp_n (by omega), q_cp_n (by omega), q_cp_n (by omega), z_un (by omega), z_un (by omega), z_un (by omega), z_un (by omega)]
    congr 1
    omega
  generalize (q_cpy (q_cpy (q_cpy (q_cpy (q_upd (q_upd (q_upd (q_upd m 15 0 (m 1 0)) 15 1 (m 1 1)) 15 3 (m 1 3)) 15 8 (m 1 8)) 2 (0 : Int).toNat 16 (0 : Int).toNat (6 : Int).toNat) 3 (0 : Int).toNat 17 (0 : Int).toNat (6 : Int).toNat) 4 (0 : Int).toNat 18 (0 : Int).toNat (6 : Int).toNat) 5 (0 : Int).toNat 19 (0 : Int).toNat (6 : Int).toNat) = M at F G0 G1 G3 G8 K1 K2 K3 K4
  clear G
  have loop : ∀ (k e : Nat) (ei : Int) (m2 : z_M), 6 - e = k → ei = (e : Int) → e ≤ 6 → (∀ x j, (x < 21 ∨ 21 + 6 ≤ x) → m2 x j = M x j) → (∀ t j, t < e → j < 13 → m2 (21 + t) j = m (7 + t) j) → z_T 184 50 [.inr (.inr 15), .inr (.inr 1), .inl ei] [] (z_st m2 g) Q := by
    intro k
    induction k with
    | zero =>
      intro e ei m2 hd hei hen q1 q2
      refine y_184a_50 ⟨(by unfold z_ok2; omega), fun _ => ⟨by decide, by decide, kk _ (fun x j h => ?_) ⟨⟨?_, ?_, ?_, ?_⟩, fun i hi => ⟨?_, ?_, ?_, ?_⟩, fun t j ht hj => ?_, fun i hi => ⟨?_, ?_⟩⟩⟩, (fun h => absurd h (by omega))⟩
      · rw [q_cp_n (by omega), q_cp_n (by omega), q1 x j (by omega), F x j (by omega)]
      · rw [q_cp_n (by omega), q_cp_n (by omega), q1 _ _ (by omega)]; exact G0
      · rw [q_cp_n (by omega), q_cp_n (by omega), q1 _ _ (by omega)]; exact G1
      · rw [q_cp_n (by omega), q_cp_n (by omega), q1 _ _ (by omega)]; exact G3
      · rw [q_cp_n (by omega), q_cp_n (by omega), q1 _ _ (by omega)]; exact G8
      · rw [q_cp_n (by omega), q_cp_n (by omega), q1 _ _ (by omega)]; exact K1 i hi
      · rw [q_cp_n (by omega), q_cp_n (by omega), q1 _ _ (by omega)]; exact K2 i hi
      · rw [q_cp_n (by omega), q_cp_n (by omega), q1 _ _ (by omega)]; exact K3 i hi
      · rw [q_cp_n (by omega), q_cp_n (by omega), q1 _ _ (by omega)]; exact K4 i hi
      · rw [q_cp_n (by omega), q_cp_n (by omega)]; exact q2 t j (by omega) hj
      · rw [q_cp_n (by omega)]
        refine (q_cp_e (by omega) (by omega)).trans ?_
        rw [q1 _ _ (by omega), F _ _ (by omega)]
        show m 13 _ = m 13 _
        congr 1
        omega
      · refine (q_cp_e (by omega) (by omega)).trans ?_
        rw [q_cp_n (by omega), q1 _ _ (by omega), F _ _ (by omega)]
        show m 14 _ = m 14 _
        congr 1
        omega
    | succ k ih =>
      intro e ei m2 hd hei hen q1 q2
      refine y_184a_50 ⟨(by unfold z_ok2; omega), (fun h => absurd h (by omega)), fun _ => ⟨z_rw6 (by omega) (by omega), z_rw20 (by omega) (by omega), ⟨z_sp6 (by omega), z_sp20 (by omega)⟩, by decide, ih (e + 1) (ei + 1) _ (by omega) (by omega) (by omega) (fun x j h => ?_) (fun t j ht hj => ?_)⟩⟩
      · rw [q_cp_n (by omega)]; exact q1 x j h
      · by_cases hte : t = e
        · rw [show 21 + t = 21 + ei.toNat by omega, q_cp_e (by omega) (by omega), q1 _ _ (by omega), F _ _ (by omega)]
          congr 1
          · omega
          · omega
        · rw [q_cp_n (by omega)]; exact q2 t j (by omega) hj
  exact loop 6 0 0 M rfl rfl (by omega) (fun _ _ _ => rfl) (fun t j ht => absurd ht (by omega))
theorem c_like_b {m : z_M} {g : z_g} {Q : q_V → q_S → Prop} (kk : ∀ m', (∀ x j, (x < 1 ∨ 14 < x) → m' x j = m x j) → t_like m m' 15 1 → Q q_dead (z_st m' g)) : z_C 184 [.inr (.inr 1), .inr (.inr 15)] (z_st m g) Q := by
  refine y_184b ⟨by decide, by decide, by decide, by decide, ?_⟩
  have F : ∀ x j, (x < 1 ∨ 5 < x) → (q_cpy (q_cpy (q_cpy (q_cpy (q_upd (q_upd (q_upd (q_upd m 1 0 (m 15 0)) 1 1 (m 15 1)) 1 3 (m 15 3)) 1 8 (m 15 8)) 16 (0 : Int).toNat 2 (0 : Int).toNat (6 : Int).toNat) 17 (0 : Int).toNat 3 (0 : Int).toNat (6 : Int).toNat) 18 (0 : Int).toNat 4 (0 : Int).toNat (6 : Int).toNat) 19 (0 : Int).toNat 5 (0 : Int).toNat (6 : Int).toNat) x j = m x j := fun x j h => by rw [q_cp_n (by omega), q_cp_n (by omega), q_cp_n (by omega), q_cp_n (by omega), z_un (by omega), z_un (by omega), z_un (by omega), z_un (by omega)]
  have G : ∀ j, (q_cpy (q_cpy (q_cpy (q_cpy (q_upd (q_upd (q_upd (q_upd m 1 0 (m 15 0)) 1 1 (m 15 1)) 1 3 (m 15 3)) 1 8 (m 15 8)) 16 (0 : Int).toNat 2 (0 : Int).toNat (6 : Int).toNat) 17 (0 : Int).toNat 3 (0 : Int).toNat (6 : Int).toNat) 18 (0 : Int).toNat 4 (0 : Int).toNat (6 : Int).toNat) 19 (0 : Int).toNat 5 (0 : Int).toNat (6 : Int).toNat) 1 j = (q_upd (q_upd (q_upd (q_upd m 1 0 (m 15 0)) 1 1 (m 15 1)) 1 3 (m 15 3)) 1 8 (m 15 8)) 1 j := fun j => by rw [q_cp_n (by omega), q_cp_n (by omega), q_cp_n (by omega), q_cp_n (by omega)]
  have G0 := G 0
  have G1 := G 1
  have G3 := G 3
  have G8 := G 8
  rw [z_un (by omega), z_un (by omega), z_un (by omega), z_ue rfl rfl] at G0
  rw [z_un (by omega), z_un (by omega), z_ue rfl rfl] at G1
  rw [z_un (by omega), z_ue rfl rfl] at G3
  rw [z_ue rfl rfl] at G8
  have K1 : ∀ j, j < 6 → (q_cpy (q_cpy (q_cpy (q_cpy (q_upd (q_upd (q_upd (q_upd m 1 0 (m 15 0)) 1 1 (m 15 1)) 1 3 (m 15 3)) 1 8 (m 15 8)) 16 (0 : Int).toNat 2 (0 : Int).toNat (6 : Int).toNat) 17 (0 : Int).toNat 3 (0 : Int).toNat (6 : Int).toNat) 18 (0 : Int).toNat 4 (0 : Int).toNat (6 : Int).toNat) 19 (0 : Int).toNat 5 (0 : Int).toNat (6 : Int).toNat) 2 j = m 16 j := fun j h => by
    rw [q_cp_n (by omega), q_cp_n (by omega), q_cp_n (by omega), q_cp_e (by omega) (by omega), z_un (by omega), z_un (by omega), z_un (by omega), z_un (by omega)]
    congr 1
    omega
  have K2 : ∀ j, j < 6 → (q_cpy (q_cpy (q_cpy (q_cpy (q_upd (q_upd (q_upd (q_upd m 1 0 (m 15 0)) 1 1 (m 15 1)) 1 3 (m 15 3)) 1 8 (m 15 8)) 16 (0 : Int).toNat 2 (0 : Int).toNat (6 : Int).toNat) 17 (0 : Int).toNat 3 (0 : Int).toNat (6 : Int).toNat) 18 (0 : Int).toNat 4 (0 : Int).toNat (6 : Int).toNat) 19 (0 : Int).toNat 5 (0 : Int).toNat (6 : Int).toNat) 3 j = m 17 j := fun j h => by
    rw [q_cp_n (by omega), q_cp_n (by omega), q_cp_e (by omega) (by omega), q_cp_n (by omega), z_un (by omega), z_un (by omega), z_un (by omega), z_un (by omega)]
    congr 1
    omega
  have K3 : ∀ j, j < 6 → (q_cpy (q_cpy (q_cpy (q_cpy (q_upd (q_upd (q_upd (q_upd m 1 0 (m 15 0)) 1 1 (m 15 1)) 1 3 (m 15 3)) 1 8 (m 15 8)) 16 (0 : Int).toNat 2 (0 : Int).toNat (6 : Int).toNat) 17 (0 : Int).toNat 3 (0 : Int).toNat (6 : Int).toNat) 18 (0 : Int).toNat 4 (0 : Int).toNat (6 : Int).toNat) 19 (0 : Int).toNat 5 (0 : Int).toNat (6 : Int).toNat) 4 j = m 18 j := fun j h => by
    rw [q_cp_n (by omega), q_cp_e (by omega) (by omega), q_cp_n (by omega), q_cp_n (by omega), z_un (by omega), z_un (by omega), z_un (by omega), z_un (by omega)]
    congr 1
    omega
  have K4 : ∀ j, j < 6 → (q_cpy (q_cpy (q_cpy (q_cpy (q_upd (q_upd (q_upd (q_upd m 1 0 (m 15 0)) 1 1 (m 15 1)) 1 3 (m 15 3)) 1 8 (m 15 8)) 16 (0 : Int).toNat 2 (0 : Int).toNat (6 : Int).toNat) 17 (0 : Int).toNat 3 (0 : Int).toNat (6 : Int).toNat) 18 (0 : Int).toNat 4 (0 : Int).toNat (6 : Int).toNat) 19 (0 : Int).toNat 5 (0 : Int).toNat (6 : Int).toNat) 5 j = m 19 j := fun j h => by
    rw [q_cp_e (by omega) (by omega), q_cp_n (by omega), q_cp_n (by omega), q_cp_n (by omega), z_un (by omega), z_un (by omega), z_un (by omega), z_un (by omega)]
    congr 1
    omega
  generalize (q_cpy (q_cpy (q_cpy (q_cpy (q_upd (q_upd (q_upd (q_upd m 1 0 (m 15 0)) 1 1 (m 15 1)) 1 3 (m 15 3)) 1 8 (m 15 8)) 16 (0 : Int).toNat 2 (0 : Int).toNat (6 : Int).toNat) 17 (0 : Int).toNat 3 (0 : Int).toNat (6 : Int).toNat) 18 (0 : Int).toNat 4 (0 : Int).toNat (6 : Int).toNat) 19 (0 : Int).toNat 5 (0 : Int).toNat (6 : Int).toNat) = M at F G0 G1 G3 G8 K1 K2 K3 K4
  clear G
  have loop : ∀ (k e : Nat) (ei : Int) (m2 : z_M), 6 - e = k → ei = (e : Int) → e ≤ 6 → (∀ x j, (x < 7 ∨ 7 + 6 ≤ x) → m2 x j = M x j) → (∀ t j, t < e → j < 13 → m2 (7 + t) j = m (21 + t) j) → z_T 184 50 [.inr (.inr 1), .inr (.inr 15), .inl ei] [] (z_st m2 g) Q := by
    intro k
    induction k with
    | zero =>
      intro e ei m2 hd hei hen q1 q2
      refine y_184b_50 ⟨(by unfold z_ok2; omega), fun _ => ⟨by decide, by decide, kk _ (fun x j h => ?_) ⟨⟨?_, ?_, ?_, ?_⟩, fun i hi => ⟨?_, ?_, ?_, ?_⟩, fun t j ht hj => ?_, fun i hi => ⟨?_, ?_⟩⟩⟩, (fun h => absurd h (by omega))⟩
      · rw [q_cp_n (by omega), q_cp_n (by omega), q1 x j (by omega), F x j (by omega)]
      · rw [q_cp_n (by omega), q_cp_n (by omega), q1 _ _ (by omega)]; exact G0
      · rw [q_cp_n (by omega), q_cp_n (by omega), q1 _ _ (by omega)]; exact G1
      · rw [q_cp_n (by omega), q_cp_n (by omega), q1 _ _ (by omega)]; exact G3
      · rw [q_cp_n (by omega), q_cp_n (by omega), q1 _ _ (by omega)]; exact G8
      · rw [q_cp_n (by omega), q_cp_n (by omega), q1 _ _ (by omega)]; exact K1 i hi
      · rw [q_cp_n (by omega), q_cp_n (by omega), q1 _ _ (by omega)]; exact K2 i hi
      · rw [q_cp_n (by omega), q_cp_n (by omega), q1 _ _ (by omega)]; exact K3 i hi
      · rw [q_cp_n (by omega), q_cp_n (by omega), q1 _ _ (by omega)]; exact K4 i hi
      · rw [q_cp_n (by omega), q_cp_n (by omega)]; exact q2 t j (by omega) hj
      · rw [q_cp_n (by omega)]
        refine (q_cp_e (by omega) (by omega)).trans ?_
        rw [q1 _ _ (by omega), F _ _ (by omega)]
        show m 27 _ = m 27 _
        congr 1
        omega
      · refine (q_cp_e (by omega) (by omega)).trans ?_
        rw [q_cp_n (by omega), q1 _ _ (by omega), F _ _ (by omega)]
        show m 28 _ = m 28 _
        congr 1
        omega
    | succ k ih =>
      intro e ei m2 hd hei hen q1 q2
      refine y_184b_50 ⟨(by unfold z_ok2; omega), (fun h => absurd h (by omega)), fun _ => ⟨z_rw20 (by omega) (by omega), z_rw6 (by omega) (by omega), ⟨z_sp20 (by omega), z_sp6 (by omega)⟩, by decide, ih (e + 1) (ei + 1) _ (by omega) (by omega) (by omega) (fun x j h => ?_) (fun t j ht hj => ?_)⟩⟩
      · rw [q_cp_n (by omega)]; exact q1 x j h
      · by_cases hte : t = e
        · rw [show 7 + t = 7 + ei.toNat by omega, q_cp_e (by omega) (by omega), q1 _ _ (by omega), F _ _ (by omega)]
          congr 1
          · omega
          · omega
        · rw [q_cp_n (by omega)]; exact q2 t j (by omega) hj
  exact loop 6 0 0 M rfl rfl (by omega) (fun _ _ _ => rfl) (fun t j ht => absurd ht (by omega))
/-- i_V speaks of few cells -/
theorem i_V_lim {m m' : z_M} (e0 : m' 1 0 = m 1 0 ∧ m' 1 1 = m 1 1 ∧ m' 1 3 = m 1 3 ∧ m' 1 8 = m 1 8) (e1 : ∀ i, i < 6 → m' 2 i = m 2 i ∧ m' 3 i = m 3 i ∧ m' 4 i = m 4 i ∧ m' 5 i = m 5 i) (e2 : ∀ t e, t < 6 → e < 13 → m' (7 + t) e = m (7 + t) e) (e3 : ∀ i, i < 4 → m' 13 i = m 13 i ∧ m' 14 i = m 14 i) (hV : i_V m) : i_V m' := by
  unfold i_V at hV ⊢
  rw [e0.1, e0.2.1, e0.2.2.1, e0.2.2.2]
  obtain ⟨g1, g2, g3, g4, g5, g6, g7⟩ := hV
  refine ⟨g1, g2, g3, g4, fun i hi => ?_, fun t ht => ?_, fun i hi => ?_⟩
  · rw [(e1 i (by omega)).1]; exact g5 i hi
  · obtain ⟨q1, q2, q3, q4⟩ := e1 t (by omega)
    rw [q2, q3, q4]
    obtain ⟨k1, k2, k3, k4, k5, k6, k7⟩ := g6 t ht
    refine ⟨k1, k2, k3, k4, k5, k6, fun i hi => ?_⟩
    rw [e2 t i (by omega) (by omega)]; exact k7 i hi
  · rw [(e3 i (by omega)).1, (e3 i (by omega)).2]; exact g7 i hi
/-! the model's passes -/
def z_pass (md : Int) (o i0 n : Nat) (p : Nat) (m m' : z_M) : Prop := (∀ i, i < n → m' o (i0 + i) = m' 164 (p + i)) ∧ (md = 1 → ∀ x j, ¬ x = 164 → ¬ (x = 131 ∧ j = 46) → m' x j = m x j) ∧ (md = 0 → ∀ j, m' 164 j = m 164 j) ∧ (∀ x j, ¬ (x = o ∧ i0 ≤ j ∧ j < i0 + n) → ¬ (x = 164 ∧ p ≤ j ∧ j < p + n) → ¬ (x = 131 ∧ j = 46) → m' x j = m x j) ∧ m' 131 46 = (p + n : Nat)
theorem n_pass1 {m : z_M} {g : z_g} {Q : q_V → q_S → Prop} {md a p : Int} (hmd : md = 0 ∨ md = 1) (h48 : m 131 48 = md) (hp : m 131 46 = p) (p0 : 0 ≤ p) (p1 : p < 130) (kk : ∀ m' v, (md = 1 → v = a) → (md = 0 → v = m 164 p.toNat) → (∀ x j, ¬ (x = 164 ∧ j = p.toNat) → ¬ (x = 131 ∧ j = 46) → m' x j = m x j) → m' 164 p.toNat = v → m' 131 46 = p + 1 → Q (.inl v) (z_st m' g)) : z_C 292 [.inr (.inr 131), .inl a] (z_st m g) Q := by
  refine y_292 ?_
  rw [h48, hp]
  refine ⟨(by unfold z_ok; omega), fun h0 => ⟨⟨by omega, by omega⟩, ⟨by omega, by omega⟩, kk _ _ (fun h => absurd h (by omega)) (fun _ => rfl) (fun x j h1 h2 => by rw [z_un (by omega), z_un (by omega)]) (by rw [z_un (by omega), z_ue rfl rfl]) (z_ue rfl rfl)⟩, fun h0 => ⟨⟨by omega, by omega⟩, kk _ _ (fun _ => rfl) (fun h => absurd h h0) (fun x j h1 h2 => by rw [z_un (by omega), z_un (by omega)]) (by rw [z_un (by omega), z_ue rfl rfl]) (z_ue rfl rfl)⟩⟩
theorem n_field {m : z_M} {g : z_g} {Q : q_V → q_S → Prop} {md : Int} {f p : Nat} (hmd : md = 0 ∨ md = 1) (h48 : m 131 48 = md) (hp : m 131 46 = (p : Int)) (p1 : p < 130) (hf : ¬ f = 46) (kk : ∀ m' v, z_pass md 131 f 1 p m (q_upd m' 131 f v) → Q (.inl v) (z_st m' g)) : z_C 292 [.inr (.inr 131), .inl (m 131 f)] (z_st m g) Q := by
  refine n_pass1 hmd h48 hp (by omega) (by omega) fun m' v k1 k0 F e1 e2 => kk m' v ⟨fun i hi => ?_, fun h1 x j h2 h3 => ?_, fun h0 j => ?_, fun x j h1 h2 h3 => ?_, ?_⟩
  · have hi0 : i = 0 := by omega
    subst hi0
    rw [z_ue rfl (by omega), z_un (by omega)]
    exact e1.symm
  · by_cases hxj : x = 131 ∧ j = f
    · rw [z_ue hxj.1 hxj.2, k1 h1, hxj.1, hxj.2]
    · rw [z_un hxj]; exact F x j (by omega) (by omega)
  · rw [z_un (by omega)]
    by_cases hj : j = p
    · rw [hj]
      exact e1.trans (k0 h0)
    · exact F 164 j (by omega) (by omega)
  · rw [z_un (by omega)]; exact F x j (by omega) (by omega)
  · rw [z_un (by omega), e2]; omega
theorem n_array {m : z_M} {g : z_g} {Q : q_V → q_S → Prop} {md : Int} {o n p : Nat} (hmd : md = 0 ∨ md = 1) (h48 : m 131 48 = md) (hp : m 131 46 = (p : Int)) (p1 : p + n ≤ 130) (ho : o < 1000) (ho1 : ¬ o = 131) (ho2 : ¬ o = 164) (hsh : (q_sh0 ++ g.2.2.1)[o]? = some (0, n)) (kk : ∀ m', z_pass md o 0 n p m m' → Q q_dead (z_st m' g)) : z_C 293 [.inr (.inr 131), .inr (.inr o), .inl (n : Int)] (z_st m g) Q := by
  have loop : ∀ (d e : Nat) (ei : Int) (m1 : z_M), n - e = d → ei = (e : Int) → e ≤ n → z_pass md o 0 e p m m1 → z_T 293 2 [.inr (.inr 131), .inr (.inr o), .inl (n : Int), .inl ei] [] (z_st m1 g) Q := by
    intro d
    induction d with
    | zero =>
      intro e ei m1 hd hei hen hps
      have hne : n = e := by omega
      subst hne
      exact y_293_2 (n := n) ⟨(by unfold z_ok2; omega), fun _ => kk m1 hps, (fun h => absurd h (by omega))⟩
    | succ d ih =>
      intro e ei m1 hd hei hen hps
      obtain ⟨a1, a2, a3, a4, a5⟩ := hps
      refine y_293_2 (n := n) ⟨(by unfold z_ok2; omega), (fun h => absurd h (by omega)), fun _ => ⟨ho, ho, ⟨ho, hsh⟩, ⟨by omega, by omega⟩, ?_⟩⟩
      have q48 : m1 131 48 = md := by rw [a4 131 48 (by omega) (by omega) (by omega)]; exact h48
      refine n_pass1 hmd q48 a5 (by omega) (by omega) fun m2 v k1 k0 F e1 e2 => y_293_12 (n := n) ⟨⟨ho, hsh⟩, ⟨by omega, by omega⟩, ih (e + 1) (ei + 1) _ (by omega) (by omega) (by omega) ⟨fun i hi => ?_, fun h1 x j h2 h3 => ?_, fun h0 j => ?_, fun x j h1 h2 h3 => ?_, ?_⟩⟩
      · rw [show (((p + e : Nat) : Int)).toNat = p + e by omega] at F e1
        by_cases hie : i = e
        · rw [z_ue rfl (by omega), z_un (by omega), hie]; exact e1.symm
        · rw [z_un (by omega), z_un (by omega), F o _ (by omega) (by omega), F 164 _ (by omega) (by omega)]
          exact a1 i (by omega)
      · by_cases hxj : x = o ∧ j = ei.toNat
        · rw [z_ue hxj.1 hxj.2, k1 h1, hxj.1, hxj.2]
          exact a2 h1 o _ (by omega) (by omega)
        · rw [z_un hxj, F x j (by omega) (by omega)]; exact a2 h1 x j h2 h3
      · rw [z_un (by omega)]
        by_cases hj : j = p + e
        · rw [hj]
          have := e1.trans (k0 h0)
          rw [show (((p + e : Nat) : Int)).toNat = p + e by omega] at this
          rw [this]
          exact a3 h0 _
        · rw [F 164 j (by omega) (by omega)]; exact a3 h0 j
      · rw [z_un (by omega), F x j (by omega) (by omega)]; exact a4 x j (by omega) (by omega) (by omega)
      · rw [z_un (by omega), e2]; omega
  exact y_293 (n := n) (loop n 0 0 m rfl rfl (by omega) ⟨fun i hi => absurd hi (by omega), fun _ _ _ _ _ => rfl, fun _ _ => rfl, fun _ _ _ _ _ => rfl, hp⟩)
/-- the image holds what the fields hold -/
def i_Im (m : z_M) : Prop := (m 131 1 = m 164 0 ∧ m 131 3 = m 164 1 ∧ m 131 8 = m 164 2 ∧ m 131 28 = m 164 3) ∧ (∀ i, i < 6 → m 133 i = m 164 (4 + i) ∧ m 134 i = m 164 (10 + i) ∧ m 135 i = m 164 (16 + i) ∧ m 136 i = m 164 (22 + i)) ∧ (∀ j, j < 78 → m 137 j = m 164 (28 + j)) ∧ ∀ i, i < 4 → m 151 i = m 164 (106 + i) ∧ m 152 i = m 164 (110 + i)
theorem n_passes {m : z_M} {g : z_g} {Q : q_V → q_S → Prop} {md : Int} (hmd : md = 0 ∨ md = 1) (kk : ∀ m', i_Im m' → (md = 1 → ∀ x j, ¬ x = 164 → ¬ (x = 131 ∧ (j = 46 ∨ j = 48)) → m' x j = m x j) → (md = 0 → ∀ j, m' 164 j = m 164 j) → (∀ x j, ¬ (x = 131 ∧ (j = 1 ∨ j = 3 ∨ j = 8 ∨ j = 28 ∨ j = 46 ∨ j = 48)) → ¬ (133 ≤ x ∧ x ≤ 137) → ¬ x = 151 → ¬ x = 152 → ¬ x = 164 → m' x j = m x j) → Q q_dead (z_st m' g)) : z_C 291 [.inr (.inr 131), .inl md] (z_st m g) Q := by
  refine y_291 ⟨⟨fun _ => hmd, fun h => absurd h (by decide)⟩, ?_⟩
  rw [show m 131 1 = (q_upd (q_upd m 131 48 md) 131 46 0) 131 1 by rw [z_un (by omega), z_un (by omega)]]
  have s48 : (q_upd (q_upd m 131 48 md) 131 46 0) 131 48 = md := by rw [z_un (by omega), z_ue rfl rfl]
  have s46 : (q_upd (q_upd m 131 48 md) 131 46 0) 131 46 = ((0 : Nat) : Int) := z_ue rfl rfl
  have sF : ∀ x j, ¬ (x = 131 ∧ (j = 46 ∨ j = 48)) → (q_upd (q_upd m 131 48 md) 131 46 0) x j = m x j := fun x j h => by rw [z_un (by omega), z_un (by omega)]
  generalize (q_upd (q_upd m 131 48 md) 131 46 0) = m0 at s48 s46 sF
  refine n_field (p := 0) hmd s48 s46 (by decide) (by decide) fun m1 v1 P1 => y_291_11 ?_
  rw [show m1 131 3 = (q_upd m1 131 1 v1) 131 3 from (z_un (by omega)).symm]
  generalize (q_upd m1 131 1 v1) = m1 at P1
  have r1 : m1 131 48 = md := by rw [P1.2.2.2.1 131 48 (by omega) (by omega) (by omega)]; exact s48
  refine n_field (p := 1) hmd r1 P1.2.2.2.2 (by decide) (by decide) fun m2 v2 P2 => y_291_17 ?_
  rw [show m2 131 8 = (q_upd m2 131 3 v2) 131 8 from (z_un (by omega)).symm]
  generalize (q_upd m2 131 3 v2) = m2 at P2
  have r2 : m2 131 48 = md := by rw [P2.2.2.2.1 131 48 (by omega) (by omega) (by omega)]; exact r1
  refine n_field (p := 2) hmd r2 P2.2.2.2.2 (by decide) (by decide) fun m3 v3 P3 => y_291_23 ?_
  rw [show m3 131 28 = (q_upd m3 131 8 v3) 131 28 from (z_un (by omega)).symm]
  generalize (q_upd m3 131 8 v3) = m3 at P3
  have r3 : m3 131 48 = md := by rw [P3.2.2.2.1 131 48 (by omega) (by omega) (by omega)]; exact r2
  refine n_field (p := 3) hmd r3 P3.2.2.2.2 (by decide) (by decide) fun m4 v4 P4 => y_291_29 ?_
  generalize (q_upd m4 131 28 v4) = m4 at P4
  have r4 : m4 131 48 = md := by rw [P4.2.2.2.1 131 48 (by omega) (by omega) (by omega)]; exact r3
  refine n_array (n := 6) (p := 4) hmd r4 P4.2.2.2.2 (by decide) (by decide) (by decide) (by decide) rfl fun m5 P5 => y_291_35 ?_
  have r5 : m5 131 48 = md := by rw [P5.2.2.2.1 131 48 (by omega) (by omega) (by omega)]; exact r4
  refine n_array (n := 6) (p := 10) hmd r5 P5.2.2.2.2 (by decide) (by decide) (by decide) (by decide) rfl fun m6 P6 => y_291_40 ?_
  have r6 : m6 131 48 = md := by rw [P6.2.2.2.1 131 48 (by omega) (by omega) (by omega)]; exact r5
  refine n_array (n := 6) (p := 16) hmd r6 P6.2.2.2.2 (by decide) (by decide) (by decide) (by decide) rfl fun m7 P7 => y_291_45 ?_
  have r7 : m7 131 48 = md := by rw [P7.2.2.2.1 131 48 (by omega) (by omega) (by omega)]; exact r6
  refine n_array (n := 6) (p := 22) hmd r7 P7.2.2.2.2 (by decide) (by decide) (by decide) (by decide) rfl fun m8 P8 => y_291_50 ?_
  have r8 : m8 131 48 = md := by rw [P8.2.2.2.1 131 48 (by omega) (by omega) (by omega)]; exact r7
  refine n_array (n := 78) (p := 28) hmd r8 P8.2.2.2.2 (by decide) (by decide) (by decide) (by decide) rfl fun m9 P9 => y_291_55 ?_
  have r9 : m9 131 48 = md := by rw [P9.2.2.2.1 131 48 (by omega) (by omega) (by omega)]; exact r8
  refine n_array (n := 4) (p := 106) hmd r9 P9.2.2.2.2 (by decide) (by decide) (by decide) (by decide) rfl fun m10 P10 => y_291_60 ?_
  have r10 : m10 131 48 = md := by rw [P10.2.2.2.1 131 48 (by omega) (by omega) (by omega)]; exact r9
  refine n_array (n := 4) (p := 110) hmd r10 P10.2.2.2.2 (by decide) (by decide) (by decide) (by decide) rfl fun m11 P11 => y_291_65 (kk m11 ?_ ?_ ?_ ?_)
  · have G10 : ∀ x j, (x = 164 ∧ j < 110) ∨ (x = 131 ∧ ¬ j = 46) ∨ (133 ≤ x ∧ x < 152) → m11 x j = m10 x j := fun x j h => P11.2.2.2.1 x j (by omega) (by omega) (by omega)
    have G9 : ∀ x j, (x = 164 ∧ j < 106) ∨ (x = 131 ∧ ¬ j = 46) ∨ (133 ≤ x ∧ x < 151) → m11 x j = m9 x j := fun x j h => by rw [G10 x j (by omega), P10.2.2.2.1 x j (by omega) (by omega) (by omega)]
    have G8 : ∀ x j, (x = 164 ∧ j < 28) ∨ (x = 131 ∧ ¬ j = 46) ∨ (133 ≤ x ∧ x < 137) → m11 x j = m8 x j := fun x j h => by rw [G9 x j (by omega), P9.2.2.2.1 x j (by omega) (by omega) (by omega)]
    have G7 : ∀ x j, (x = 164 ∧ j < 22) ∨ (x = 131 ∧ ¬ j = 46) ∨ (133 ≤ x ∧ x < 136) → m11 x j = m7 x j := fun x j h => by rw [G8 x j (by omega), P8.2.2.2.1 x j (by omega) (by omega) (by omega)]
    have G6 : ∀ x j, (x = 164 ∧ j < 16) ∨ (x = 131 ∧ ¬ j = 46) ∨ (133 ≤ x ∧ x < 135) → m11 x j = m6 x j := fun x j h => by rw [G7 x j (by omega), P7.2.2.2.1 x j (by omega) (by omega) (by omega)]
    have G5 : ∀ x j, (x = 164 ∧ j < 10) ∨ (x = 131 ∧ ¬ j = 46) ∨ (133 ≤ x ∧ x < 134) → m11 x j = m5 x j := fun x j h => by rw [G6 x j (by omega), P6.2.2.2.1 x j (by omega) (by omega) (by omega)]
    have G4 : ∀ x j, (x = 164 ∧ j < 4) ∨ (x = 131 ∧ ¬ j = 46) → m11 x j = m4 x j := fun x j h => by rw [G5 x j (by omega), P5.2.2.2.1 x j (by omega) (by omega) (by omega)]
    have G3 : ∀ x j, (x = 164 ∧ j < 3) ∨ (x = 131 ∧ j < 28) → m11 x j = m3 x j := fun x j h => by rw [G4 x j (by omega), P4.2.2.2.1 x j (by omega) (by omega) (by omega)]
    have G2 : ∀ x j, (x = 164 ∧ j < 2) ∨ (x = 131 ∧ j < 8) → m11 x j = m2 x j := fun x j h => by rw [G3 x j (by omega), P3.2.2.2.1 x j (by omega) (by omega) (by omega)]
    have G1 : ∀ x j, (x = 164 ∧ j < 1) ∨ (x = 131 ∧ j < 3) → m11 x j = m1 x j := fun x j h => by rw [G2 x j (by omega), P2.2.2.2.1 x j (by omega) (by omega) (by omega)]
    refine ⟨⟨?_, ?_, ?_, ?_⟩, fun i hi => ⟨?_, ?_, ?_, ?_⟩, fun j hj => ?_, fun i hi => ⟨?_, ?_⟩⟩
    · rw [G1 131 1 (by omega), G1 164 0 (by omega)]; exact P1.1 0 (by omega)
    · rw [G2 131 3 (by omega), G2 164 1 (by omega)]; exact P2.1 0 (by omega)
    · rw [G3 131 8 (by omega), G3 164 2 (by omega)]; exact P3.1 0 (by omega)
    · rw [G4 131 28 (by omega), G4 164 3 (by omega)]; exact P4.1 0 (by omega)
    · rw [G5 133 i (by omega), G5 164 _ (by omega), ← P5.1 i hi, Nat.zero_add]
    · rw [G6 134 i (by omega), G6 164 _ (by omega), ← P6.1 i hi, Nat.zero_add]
    · rw [G7 135 i (by omega), G7 164 _ (by omega), ← P7.1 i hi, Nat.zero_add]
    · rw [G8 136 i (by omega), G8 164 _ (by omega), ← P8.1 i hi, Nat.zero_add]
    · rw [G9 137 j (by omega), G9 164 _ (by omega), ← P9.1 j hj, Nat.zero_add]
    · rw [G10 151 i (by omega), G10 164 _ (by omega), ← P10.1 i hi, Nat.zero_add]
    · rw [← P11.1 i hi, Nat.zero_add]
  · intro h1 x j h2 h3
    rw [P11.2.1 h1 x j h2 (by omega), P10.2.1 h1 x j h2 (by omega), P9.2.1 h1 x j h2 (by omega), P8.2.1 h1 x j h2 (by omega), P7.2.1 h1 x j h2 (by omega), P6.2.1 h1 x j h2 (by omega), P5.2.1 h1 x j h2 (by omega), P4.2.1 h1 x j h2 (by omega), P3.2.1 h1 x j h2 (by omega), P2.2.1 h1 x j h2 (by omega), P1.2.1 h1 x j h2 (by omega), sF x j (by omega)]
  · intro h0 j
    rw [P11.2.2.1 h0 j, P10.2.2.1 h0 j, P9.2.2.1 h0 j, P8.2.2.1 h0 j, P7.2.2.1 h0 j, P6.2.2.1 h0 j, P5.2.2.1 h0 j, P4.2.2.1 h0 j, P3.2.2.1 h0 j, P2.2.2.1 h0 j, P1.2.2.1 h0 j, sF 164 j (by omega)]
  · intro x j q1 q2 q3 q4 q5
    rw [P11.2.2.2.1 x j (by omega) (by omega) (by omega), P10.2.2.2.1 x j (by omega) (by omega) (by omega), P9.2.2.2.1 x j (by omega) (by omega) (by omega), P8.2.2.2.1 x j (by omega) (by omega) (by omega), P7.2.2.2.1 x j (by omega) (by omega) (by omega), P6.2.2.2.1 x j (by omega) (by omega) (by omega), P5.2.2.2.1 x j (by omega) (by omega) (by omega), P4.2.2.2.1 x j (by omega) (by omega) (by omega), P3.2.2.2.1 x j (by omega) (by omega) (by omega), P2.2.2.2.1 x j (by omega) (by omega) (by omega), P1.2.2.2.1 x j (by omega) (by omega) (by omega), sF x j (by omega)]
theorem p_image {L : Nat} {m : z_M} {g : z_g} (hI : I L m g) : z_pI (I L) 183 290 [] m g := by
  have hh := hI
  obtain ⟨hg, hSc, hD, ⟨hV, hT, hP⟩, hZ, hR, hK, hSt, hL, hX, hW, hF⟩ := hh
  have hvp := i_vp hg
  refine y_183 (c_like_a fun m1 f1 l1 => y_183_5 ⟨⟨fun _ => Or.inr rfl, fun h => absurd h (by decide)⟩, ?_⟩)
  have f1' : ∀ x j, ¬ (x = 0 ∧ j = 2) → (x < 15 ∨ 28 < x) → (q_upd m1 0 2 1) x j = m x j := fun x j h1 h2 => by rw [z_un h1]; exact f1 x j h2
  have k2 : (q_upd m1 0 2 1) 0 2 = 1 := z_ue rfl rfl
  have l2 : t_like m (q_upd m1 0 2 1) 1 15 := by
    obtain ⟨a, b, c, d⟩ := l1
    refine ⟨⟨?_, ?_, ?_, ?_⟩, fun i hi => ⟨?_, ?_, ?_, ?_⟩, fun t e ht he => ?_, fun i hi => ⟨?_, ?_⟩⟩
    · rw [z_un (by omega)]; exact a.1
    · rw [z_un (by omega)]; exact a.2.1
    · rw [z_un (by omega)]; exact a.2.2.1
    · rw [z_un (by omega)]; exact a.2.2.2
    · rw [z_un (by omega)]; exact (b i hi).1
    · rw [z_un (by omega)]; exact (b i hi).2.1
    · rw [z_un (by omega)]; exact (b i hi).2.2.1
    · rw [z_un (by omega)]; exact (b i hi).2.2.2
    · rw [z_un (by omega)]; exact c t e ht he
    · rw [z_un (by omega)]; exact (d i hi).1
    · rw [z_un (by omega)]; exact (d i hi).2
  rw [show m1 1 3 = m 1 3 from f1 1 3 (by omega)]
  generalize (q_upd m1 0 2 1) = m2 at f1' k2 l2
  refine ⟨m 1 3, m2, g, rfl, rfl, fun j => f1' 1001 j (by omega) (by omega), rfl, y_290 (n_passes (Or.inr rfl) fun m3 im f3 _ _ => y_290_3 ⟨⟨fun _ => Or.inr rfl, fun h => absurd h (by decide)⟩, ?_⟩)⟩
  have f3 := f3 rfl
  have F : ∀ x j, ¬ (x = 0 ∧ j = 2) → ¬ (15 ≤ x ∧ x ≤ 28) → ¬ x = 164 → ¬ (x = 131 ∧ (j = 46 ∨ j = 47 ∨ j = 48)) → (q_upd m3 131 47 1) x j = m x j := fun x j h1 h2 h3 h4 => by rw [z_un (by omega), f3 x j h3 (by omega), f1' x j h1 (by omega)]
  have G : ∀ x j, ¬ x = 164 → ¬ (x = 131) → (q_upd m3 131 47 1) x j = m2 x j := fun x j h1 h2 => by rw [z_un (by omega), f3 x j h1 (by omega)]
  have H : ∀ j, (q_upd m3 131 47 1) 164 j = m3 164 j := fun j => z_un (by omega)
  have M : ∀ x j, ¬ x = 164 → ¬ (15 ≤ x ∧ x ≤ 28) → ¬ (x = 0 ∧ j = 2) → ¬ (x = 131 ∧ (j = 46 ∨ j = 47 ∨ j = 48)) → m3 x j = m x j := fun x j h1 h2 h3 h4 => by rw [f3 x j h1 (by omega), f1' x j h3 (by omega)]
  have k47 : (q_upd m3 131 47 1) 131 47 = 1 := z_ue rfl rfl
  refine p_m (by rw [M 131 8 (by omega) (by omega) (by omega) (by omega)]; exact hR.1.2.2.1.symm) ?_
  generalize (q_upd m3 131 47 1) = m4 at F G H k47
  have hW' : i_W m4 g.2.1 := i_W_of (fun a j _ => F a j (by omega) (by omega) (by omega) (by omega)) hW
  refine ⟨hg, i_Sc_of (fun j => F 1001 j (by omega) (by omega) (by omega) (by omega)) hSc, i_D_of (fun a j _ _ => F a j (by omega) (by omega) (by omega) (by omega)) hD, ⟨i_V_of (fun a j _ _ => F a j (by omega) (by omega) (by omega) (by omega)) hV, i_T_of (fun a j _ _ => F a j (by omega) (by omega) (by omega) (by omega)) hT, i_P_of (fun j => F 1002 j (by omega) (by omega) (by omega) (by omega)) hP⟩, by show _ = _; rw [F 72 12 (by omega) (by omega) (by omega) (by omega)]; exact hZ, i_R_of (fun a j _ => F a j (by omega) (by omega) (by omega) (by omega)) hR, ?_, i_St_of (fun a j _ => F a j (by omega) (by omega) (by omega) (by omega)) hSt, i_L_of (fun a j _ => F a j (by omega) (by omega) (by omega) (by omega)) hL, i_X_of (fun a j _ => F a j (by omega) (by omega) (by omega) (by omega)) hX, hW', i_F_of (fun a j _ => F a j (by omega) (by omega) (by omega) (by omega)) hF⟩
  obtain ⟨la, lb, lc, ld⟩ := l2
  obtain ⟨ia, ib, ic, id⟩ := im
  obtain ⟨ra, rb, rc, rd, -⟩ := hR
  refine Or.inr ⟨by rw [G 0 2 (by omega) (by omega)]; exact k2, k47, i_V_lim (m := m) ⟨?_, ?_, ?_, ?_⟩ (fun i hi => ⟨?_, ?_, ?_, ?_⟩) (fun t e ht he => ?_) (fun i hi => ⟨?_, ?_⟩) hV, ⟨?_, ?_, ?_, ?_⟩, fun i hi => ⟨?_, ?_, ?_, ?_⟩, fun t e ht he => ?_, fun i hi => ⟨?_, ?_⟩⟩
  · show m4 15 0 = _; rw [G 15 0 (by omega) (by omega)]; exact la.1
  · show m4 15 1 = _; rw [G 15 1 (by omega) (by omega)]; exact la.2.1
  · show m4 15 3 = _; rw [G 15 3 (by omega) (by omega)]; exact la.2.2.1
  · show m4 15 8 = _; rw [G 15 8 (by omega) (by omega)]; exact la.2.2.2
  · show m4 16 i = _; rw [G 16 i (by omega) (by omega)]; exact (lb i hi).1
  · show m4 17 i = _; rw [G 17 i (by omega) (by omega)]; exact (lb i hi).2.1
  · show m4 18 i = _; rw [G 18 i (by omega) (by omega)]; exact (lb i hi).2.2.1
  · show m4 19 i = _; rw [G 19 i (by omega) (by omega)]; exact (lb i hi).2.2.2
  · show m4 (7 + t + 14) e = _; rw [G _ e (by omega) (by omega), show 7 + t + 14 = 15 + 6 + t by omega]; exact lc t e ht he
  · show m4 27 i = _; rw [G 27 i (by omega) (by omega)]; exact (ld i hi).1
  · show m4 28 i = _; rw [G 28 i (by omega) (by omega)]; exact (ld i hi).2
  · rw [H, G 15 0 (by omega) (by omega), ← ia.1, M 131 1 (by omega) (by omega) (by omega) (by omega), ra.1]; exact la.1.symm
  · rw [H, G 15 1 (by omega) (by omega), ← ia.2.1, M 131 3 (by omega) (by omega) (by omega) (by omega), ra.2.1]; exact la.2.1.symm
  · rw [H, G 15 3 (by omega) (by omega), ← ia.2.2.1, M 131 8 (by omega) (by omega) (by omega) (by omega), ra.2.2.1]; exact la.2.2.1.symm
  · rw [H, G 15 8 (by omega) (by omega), ← ia.2.2.2, M 131 28 (by omega) (by omega) (by omega) (by omega), ra.2.2.2]; exact la.2.2.2.symm
  · rw [H, G 16 i (by omega) (by omega), ← (ib i hi).1, M 133 i (by omega) (by omega) (by omega) (by omega), (rb i hi).1]; exact (lb i hi).1.symm
  · rw [H, G 17 i (by omega) (by omega), ← (ib i hi).2.1, M 134 i (by omega) (by omega) (by omega) (by omega), (rb i hi).2.1]; exact (lb i hi).2.1.symm
  · rw [H, G 18 i (by omega) (by omega), ← (ib i hi).2.2.1, M 135 i (by omega) (by omega) (by omega) (by omega), (rb i hi).2.2.1]; exact (lb i hi).2.2.1.symm
  · rw [H, G 19 i (by omega) (by omega), ← (ib i hi).2.2.2, M 136 i (by omega) (by omega) (by omega) (by omega), (rb i hi).2.2.2]; exact (lb i hi).2.2.2.symm
  · rw [H, G (21 + t) e (by omega) (by omega), show 28 + 13 * t + e = 28 + (13 * t + e) by omega, ← ic (13 * t + e) (by omega), M 137 _ (by omega) (by omega) (by omega) (by omega), rc t e ht he]; exact (lc t e ht he).symm
  · rw [H, G 27 i (by omega) (by omega), ← (id i hi).1, M 151 i (by omega) (by omega) (by omega) (by omega), (rd i hi).1]; exact (ld i hi).1.symm
  · rw [H, G 28 i (by omega) (by omega), ← (id i hi).2, M 152 i (by omega) (by omega) (by omega) (by omega), (rd i hi).2]; exact (ld i hi).2.symm
theorem p_restore {L : Nat} {m : z_M} {g : z_g} (hI : I L m g) : z_pI (I L) 185 294 [] m g := by
  have hh := hI
  obtain ⟨hg, hSc, hD, ⟨hV, hT, hP⟩, hZ, hR, hK, hSt, hL, hX, hW, hF⟩ := hh
  rcases hK with ⟨h1, h2⟩ | ⟨h1, h2, hU, ka, kb, kc, kd⟩
  · exact y_185 ⟨(by unfold z_ok; omega), fun h => absurd h1 h, fun _ => ⟨-3, m, g, rfl, rfl, fun _ => rfl, rfl, y_294 ⟨(by unfold z_ok; omega), fun h => absurd h2 h, fun _ => p_m rfl hI⟩⟩⟩
  refine y_185 ⟨(by unfold z_ok; omega), fun _ => c_like_b fun m1 f1 l1 => y_185_10 (c_clear (y_185_13 ?_)), fun h => absurd h (by omega)⟩
  have f1' : ∀ x j, ¬ (x = 109 ∧ j = 0) → (x < 1 ∨ 14 < x) → (q_upd m1 109 0 0) x j = m x j := fun x j h1 h2 => by rw [z_un h1]; exact f1 x j h2
  have k2 : (q_upd m1 109 0 0) 109 0 = 0 := z_ue rfl rfl
  have l2 : ∀ x j, ¬ x = 109 → (q_upd m1 109 0 0) x j = m1 x j := fun x j h => z_un (by omega)
  refine ⟨(q_upd m1 109 0 0) 1 3, q_upd m1 109 0 0, g, rfl, rfl, fun j => f1' 1001 j (by omega) (by omega), rfl, ?_⟩
  generalize (q_upd m1 109 0 0) = m2 at f1' k2 l2
  refine y_294 ⟨by (rw [f1' 131 47 (by omega) (by omega)]; unfold z_ok; omega), fun _ => n_passes (Or.inl rfl) fun m3 im _ f0 fF => y_294_8 ?_, fun h => absurd h (by rw [f1' 131 47 (by omega) (by omega)]; omega)⟩
  have f0 := f0 rfl
  have F : ∀ x j, ¬ (1 ≤ x ∧ x ≤ 14) → ¬ (x = 109 ∧ j = 0) → ¬ (x = 131 ∧ (j = 1 ∨ j = 3 ∨ j = 8 ∨ j = 28 ∨ j = 41 ∨ j = 46 ∨ j = 48)) → ¬ (133 ≤ x ∧ x ≤ 137) → ¬ x = 151 → ¬ x = 152 → (q_upd m3 131 41 0) x j = m x j := fun x j q1 q2 q3 q4 q5 q6 => by
    rw [z_un (by omega)]
    by_cases h164 : x = 164
    · rw [h164, f0, f1' 164 j (by omega) (by omega)]
    · rw [fF x j (by omega) q4 q5 q6 h164, f1' x j q2 (by omega)]
  have N : ∀ j, m3 164 j = m 164 j := fun j => by rw [f0, f1' 164 j (by omega) (by omega)]
  have A : ∀ x j, 1 ≤ x → x ≤ 14 → (q_upd m3 131 41 0) x j = m1 x j := fun x j q1 q2 => by rw [z_un (by omega), fF x j (by omega) (by omega) (by omega) (by omega) (by omega), l2 x j (by omega)]
  have B : ∀ x j, ¬ (x = 131 ∧ j = 41) → (q_upd m3 131 41 0) x j = m3 x j := fun x j q => z_un q
  have C : (q_upd m3 131 41 0) 131 41 = 0 := z_ue rfl rfl
  obtain ⟨la, lb, lc, ld⟩ := l1
  obtain ⟨ia, ib, ic, id⟩ := im
  refine p_m ?_ ?_
  · rw [l2 1 3 (by omega), ia.2.2.1, N, ka.2.2.1]; exact la.2.2.1
  generalize (q_upd m3 131 41 0) = m4 at F A B C
  refine I_gen hI (fun a j h => F a j (by unfold z_chg at h; omega) (by unfold z_chg z_sts at h; omega) (by unfold z_chg z_scr z_sts at h; omega) (by unfold z_chg at h; omega) (by unfold z_chg at h; omega) (by unfold z_chg at h; omega)) ?_ (i_T_of (fun a j _ _ => F a j (by omega) (by omega) (by omega) (by omega) (by omega) (by omega)) hT) (by show _ = _; rw [F 72 12 (by omega) (by omega) (by omega) (by omega) (by omega) (by omega)]; exact hZ) ?_ (i_St_0 (by rw [B 109 0 (by omega), fF 109 0 (by omega) (by omega) (by omega) (by omega) (by omega)]; exact k2) C)
  · refine i_V_lim (m := z_up m) ⟨?_, ?_, ?_, ?_⟩ (fun i hi => ⟨?_, ?_, ?_, ?_⟩) (fun t e ht he => ?_) (fun i hi => ⟨?_, ?_⟩) hU
    · rw [A 1 0 (by omega) (by omega)]; exact la.1
    · rw [A 1 1 (by omega) (by omega)]; exact la.2.1
    · rw [A 1 3 (by omega) (by omega)]; exact la.2.2.1
    · rw [A 1 8 (by omega) (by omega)]; exact la.2.2.2
    · rw [A 2 i (by omega) (by omega)]; exact (lb i hi).1
    · rw [A 3 i (by omega) (by omega)]; exact (lb i hi).2.1
    · rw [A 4 i (by omega) (by omega)]; exact (lb i hi).2.2.1
    · rw [A 5 i (by omega) (by omega)]; exact (lb i hi).2.2.2
    · rw [A (7 + t) e (by omega) (by omega)]; show _ = m (7 + t + 14) e; rw [show 7 + t + 14 = 15 + 6 + t by omega]; exact lc t e ht he
    · rw [A 13 i (by omega) (by omega)]; exact (ld i hi).1
    · rw [A 14 i (by omega) (by omega)]; exact (ld i hi).2
  · refine ⟨⟨?_, ?_, ?_, ?_⟩, fun i hi => ⟨?_, ?_, ?_, ?_⟩, fun t e ht he => ?_, fun i hi => ⟨?_, ?_⟩, fun j hj => ?_⟩
    · rw [B 131 1 (by omega), ia.1, N, ka.1, A 1 0 (by omega) (by omega)]; exact la.1.symm
    · rw [B 131 3 (by omega), ia.2.1, N, ka.2.1, A 1 1 (by omega) (by omega)]; exact la.2.1.symm
    · rw [B 131 8 (by omega), ia.2.2.1, N, ka.2.2.1, A 1 3 (by omega) (by omega)]; exact la.2.2.1.symm
    · rw [B 131 28 (by omega), ia.2.2.2, N, ka.2.2.2, A 1 8 (by omega) (by omega)]; exact la.2.2.2.symm
    · rw [B 133 i (by omega), (ib i hi).1, N, (kb i hi).1, A 2 i (by omega) (by omega)]; exact (lb i hi).1.symm
    · rw [B 134 i (by omega), (ib i hi).2.1, N, (kb i hi).2.1, A 3 i (by omega) (by omega)]; exact (lb i hi).2.1.symm
    · rw [B 135 i (by omega), (ib i hi).2.2.1, N, (kb i hi).2.2.1, A 4 i (by omega) (by omega)]; exact (lb i hi).2.2.1.symm
    · rw [B 136 i (by omega), (ib i hi).2.2.2, N, (kb i hi).2.2.2, A 5 i (by omega) (by omega)]; exact (lb i hi).2.2.2.symm
    · rw [B 137 _ (by omega), ic _ (by omega), N, show 28 + (13 * t + e) = 28 + 13 * t + e by omega, kc t e ht he, A (7 + t) e (by omega) (by omega), show 21 + t = 15 + 6 + t by omega, show 7 + t = 1 + 6 + t by omega]; exact (lc t e ht he).symm
    · rw [B 151 i (by omega), (id i hi).1, N, (kd i hi).1, A 13 i (by omega) (by omega)]; exact (ld i hi).1.symm
    · rw [B 152 i (by omega), (id i hi).2, N, (kd i hi).2, A 14 i (by omega) (by omega)]; exact (ld i hi).2.symm
    · rw [F 132 j (by omega) (by omega) (by omega) (by omega) (by omega) (by omega)]; exact hR.2.2.2.2 j hj
