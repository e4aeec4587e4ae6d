/-! THE START: what holds of the first state -/
theorem e_beq {a b : Nat} : Nat.beq a b = true ↔ a = b := by rw [Nat.beq_eq]
theorem e_ble {a b : Nat} : Nat.ble a b = true ↔ a ≤ b := by rw [Nat.ble_eq]
theorem e_R_pt {b j : Nat} : ∀ (l : List (Nat × Nat × Nat × Nat)) (f f' : Nat → Nat → Nat), f b j = f' b j → e_R l f b j = e_R l f' b j
  | [], _, _, h => h
  | (0, n, _, _) :: r, f, f', h => e_R_pt r _ _ (by unfold q_zero; rw [h])
  | (1, a, i, v) :: r, f, f', h => e_R_pt r _ _ (by unfold q_upd; rw [h])
  | (_ + 2, n, k, _) :: r, f, f', h => e_R_pt r _ _ (by unfold q_row; rw [h])
def e_Rk : List (Nat × Nat × Nat × Nat) → Bool
  | [] => true
  | (0, _, _, _) :: r => e_Rk r
  | (1, a, _, _) :: r => decide (a < 165) && e_Rk r
  | (_ + 2, n, _, _) :: r => decide (n < 165) && e_Rk r
theorem e_R_hi {b j : Nat} (h : 165 ≤ b) : ∀ (l : List (Nat × Nat × Nat × Nat)) (f : Nat → Nat → Nat), e_Rk l = true → (e_R l f b j = f b j ∨ (b < 1000 ∧ e_R l f b j = 1000))
  | [], _, _ => Or.inl rfl
  | (0, n, _, _) :: r, f, hk => by
    rcases e_R_hi h r (q_zero f n 1000) hk with h1 | h1
    · have h1 : e_R r (q_zero f n 1000) b j = q_zero f n 1000 b j := h1
      show e_R r (q_zero f n 1000) b j = _ ∨ (b < 1000 ∧ e_R r (q_zero f n 1000) b j = 1000)
      rw [h1]
      unfold q_zero
      by_cases hc : n ≤ b ∧ b < 1000
      · rw [if_pos hc]; exact Or.inr ⟨hc.2, rfl⟩
      · rw [if_neg hc]; exact Or.inl rfl
    · exact Or.inr h1
  | (1, a, i, v) :: r, f, hk => by
    have hk : (decide (a < 165) && e_Rk r) = true := hk
    simp only [Bool.and_eq_true, decide_eq_true_eq] at hk
    rcases e_R_hi h r (q_upd f a i v) hk.2 with h1 | h1
    · left
      show e_R r (q_upd f a i v) b j = _
      rw [h1, z_un (by omega)]
    · exact Or.inr h1
  | (x + 2, n, k, y) :: r, f, hk => by
    have hk : (decide (n < 165) && e_Rk r) = true := hk
    simp only [Bool.and_eq_true, decide_eq_true_eq] at hk
    rcases e_R_hi h r (q_row f n k) hk.2 with h1 | h1
    · left
      show e_R r (q_row f n k) b j = _
      rw [h1]
      unfold q_row
      rw [if_neg (by omega)]
    · exact Or.inr h1
theorem e_ARk : e_Rk e_AR = true := by decide +kernel
/-- one row at a time -/
def e_set : List Nat → Nat → Nat → List Nat
  | [], 0, v => [v]
  | [], i + 1, v => 1000 :: e_set [] i v
  | _ :: r, 0, v => v :: r
  | x :: r, i + 1, v => x :: e_set r i v
def e_d (l : List Nat) (j : Nat) : Nat := l.getD j 1000
theorem e_d_nil {j : Nat} : e_d [] j = 1000 := by unfold e_d; cases j <;> rfl
theorem e_d_0 {x : Nat} {r : List Nat} : e_d (x :: r) 0 = x := rfl
theorem e_d_s {x j : Nat} {r : List Nat} : e_d (x :: r) (j + 1) = e_d r j := rfl
theorem e_set_d {v : Nat} : ∀ (l : List Nat) (i j : Nat), e_d (e_set l i v) j = if j = i then v else e_d l j
  | [], 0, 0 => rfl
  | [], 0, j + 1 => by rw [if_neg (by omega)]; show e_d [v] (j + 1) = _; rw [e_d_s, e_d_nil, e_d_nil]
  | [], i + 1, 0 => by rw [if_neg (by omega), e_d_nil]; rfl
  | [], i + 1, j + 1 => by
    show e_d (1000 :: e_set [] i v) (j + 1) = _
    rw [e_d_s, e_set_d [] i j, e_d_nil, e_d_nil]
    by_cases h : j = i
    · rw [if_pos h, if_pos (by omega)]
    · rw [if_neg h, if_neg (by omega)]
  | x :: r, 0, 0 => rfl
  | x :: r, 0, j + 1 => by rw [if_neg (by omega)]; rfl
  | x :: r, i + 1, 0 => by rw [if_neg (by omega)]; rfl
  | x :: r, i + 1, j + 1 => by
    show e_d (x :: e_set r i v) (j + 1) = _
    rw [e_d_s, e_set_d r i j, e_d_s]
    by_cases h : j = i
    · rw [if_pos h, if_pos (by omega)]
    · rw [if_neg h, if_neg (by omega)]
def e_ov : List Nat → Nat → Nat → List Nat
  | l, _, 0 => l
  | [], s, k + 1 => s :: e_ov [] (s + 1) k
  | _ :: r, s, k + 1 => s :: e_ov r (s + 1) k
theorem e_ov_d : ∀ (k : Nat) (l : List Nat) (s j : Nat), e_d (e_ov l s k) j = if j < k then s + j else e_d l j
  | 0, l, s, j => by
    rw [if_neg (by omega)]
    cases l <;> rfl
  | k + 1, [], s, 0 => by rw [if_pos (by omega)]; rfl
  | k + 1, [], s, j + 1 => by
    show e_d (s :: e_ov [] (s + 1) k) (j + 1) = _
    rw [e_d_s, e_ov_d k [] (s + 1) j, e_d_nil, e_d_nil]
    by_cases h : j < k
    · rw [if_pos h, if_pos (by omega)]; omega
    · rw [if_neg h, if_neg (by omega)]
  | k + 1, x :: r, s, 0 => by rw [if_pos (by omega)]; rfl
  | k + 1, x :: r, s, j + 1 => by
    show e_d (s :: e_ov r (s + 1) k) (j + 1) = _
    rw [e_d_s, e_ov_d k r (s + 1) j, e_d_s]
    by_cases h : j < k
    · rw [if_pos h, if_pos (by omega)]; omega
    · rw [if_neg h, if_neg (by omega)]
def e_rw (b : Nat) : List (Nat × Nat × Nat × Nat) → List Nat → List Nat
  | [], l => l
  | (0, n, _, _) :: r, l => e_rw b r (bif Nat.ble n b then [] else l)
  | (1, a, i, v) :: r, l => e_rw b r (bif Nat.beq b a then e_set l i v else l)
  | (_ + 2, n, k, _) :: r, l => e_rw b r (bif Nat.beq b n then e_ov l (n + 1) k else l)
theorem e_rw_ok {b : Nat} (hb : b < 1000) : ∀ (o : List (Nat × Nat × Nat × Nat)) (f : Nat → Nat → Nat) (l : List Nat), (∀ j, f b j = e_d l j) → ∀ j, e_R o f b j = e_d (e_rw b o l) j
  | [], f, l, h, j => h j
  | (0, n, _, _) :: r, f, l, h, j => by
    refine e_rw_ok hb r (q_zero f n 1000) _ (fun j => ?_) j
    unfold q_zero
    by_cases hc : n ≤ b
    · rw [if_pos ⟨hc, hb⟩, show Nat.ble n b = true from e_ble.2 hc, cond_true, e_d_nil]
    · rw [if_neg (by omega)]
      cases hh : Nat.ble n b with
      | true => exact absurd (e_ble.1 hh) hc
      | false => exact h j
  | (1, a, i, v) :: r, f, l, h, j => by
    refine e_rw_ok hb r (q_upd f a i v) _ (fun j => ?_) j
    by_cases hc : b = a
    · rw [show Nat.beq b a = true from e_beq.2 hc, cond_true, e_set_d]
      by_cases hj : j = i
      · rw [if_pos hj, z_ue hc hj]
      · rw [if_neg hj, z_un (by omega)]; exact h j
    · rw [z_un (by omega)]
      cases hh : Nat.beq b a with
      | true => exact absurd (e_beq.1 hh) hc
      | false => exact h j
  | (x + 2, n, k, y) :: r, f, l, h, j => by
    refine e_rw_ok hb r (q_row f n k) _ (fun j => ?_) j
    unfold q_row
    by_cases hc : b = n
    · rw [show Nat.beq b n = true from e_beq.2 hc, cond_true, e_ov_d]
      by_cases hj : j < k
      · rw [if_pos ⟨hc, hj⟩, if_pos hj]
      · rw [if_neg (by omega), if_neg hj]; exact h j
    · rw [if_neg (by omega)]
      cases hh : Nat.beq b n with
      | true => exact absurd (e_beq.1 hh) hc
      | false => exact h j
def e_eq1 : List Nat → Bool
  | [] => true
  | y :: s => Nat.beq y 1000 && e_eq1 s
def e_eq : List Nat → List Nat → Bool
  | [], l => e_eq1 l
  | x :: r, l => match l with
    | [] => Nat.beq x 1000 && e_eq r []
    | y :: s => Nat.beq x y && e_eq r s
theorem e_eq1_ok : ∀ (l : List Nat), e_eq1 l = true → ∀ j, e_d l j = 1000
  | [], _, _ => e_d_nil
  | y :: s, h, j => by
    have h : (Nat.beq y 1000 && e_eq1 s) = true := h
    rw [Bool.and_eq_true] at h
    cases j with
    | zero => rw [e_d_0]; exact e_beq.1 h.1
    | succ j => rw [e_d_s, e_eq1_ok s h.2 j]
theorem e_eq_ok : ∀ (l l' : List Nat), e_eq l l' = true → ∀ j, e_d l j = e_d l' j
  | [], l', h, j => by
    have h : e_eq1 l' = true := h
    rw [e_eq1_ok l' h, e_d_nil]
  | x :: r, [], h, j => by
    have h : (Nat.beq x 1000 && e_eq r []) = true := h
    rw [Bool.and_eq_true] at h
    cases j with
    | zero => rw [e_d_0, e_d_nil]; exact e_beq.1 h.1
    | succ j => rw [e_d_s, e_eq_ok r [] h.2 j, e_d_nil, e_d_nil]
  | x :: r, y :: s, h, j => by
    have h : (Nat.beq x y && e_eq r s) = true := h
    rw [Bool.and_eq_true] at h
    cases j with
    | zero => rw [e_d_0, e_d_0]; exact e_beq.1 h.1
    | succ j => rw [e_d_s, e_d_s]; exact e_eq_ok r s h.2 j
def e_row (b : Nat) : List Nat := bif Nat.beq b 125 then e_set (q_rt.getD b []) 0 126 else q_rt.getD b []
theorem e_tab : (List.range 165).all (fun b => e_eq (e_rw b e_AR []) (e_row b)) = true := by decide +kernel
theorem e_row_d {L b j : Nat} (h : b < 165) : e_d (e_row b) j = q_rfz L 126 b j := by
  unfold e_row q_rfz
  by_cases hb : b = 125
  · rw [show Nat.beq b 125 = true from e_beq.2 hb, cond_true, e_set_d]
    by_cases hj : j = 0
    · rw [if_pos hj, if_pos ⟨hb, hj⟩]
    · rw [if_neg hj, if_neg (by omega), if_neg (by omega)]; rfl
  · rw [if_neg (by omega), if_neg (by omega)]
    cases hh : Nat.beq b 125 with
    | true => exact absurd (e_beq.1 hh) hb
    | false => rfl
theorem e_rf {L : Nat} {xs : Nat → Int32} : e_R e_AR (q_S0 L xs).2.1 = q_rfz L 126 := by
  funext b j
  have base : ∀ j, (q_S0 L xs).2.1 b j = if b = 1001 ∧ j = 0 then L else 1000 := fun _ => rfl
  by_cases h : 165 ≤ b
  · have e2 : q_rfz L 126 b j = if b = 1001 ∧ j = 0 then L else 1000 := by
      unfold q_rfz
      rw [if_neg (by omega), List.getD_eq_getElem?_getD (l := q_rt), List.getElem?_eq_none (by rw [s_rt]; omega)]
      rfl
    rw [e2]
    rcases e_R_hi h e_AR (q_S0 L xs).2.1 e_ARk with h1 | ⟨h1, h2⟩
    · rw [h1]; exact base j
    · rw [h2, if_neg (by omega)]
  · have h1 := e_rw_ok (b := b) (by omega) e_AR (q_S0 L xs).2.1 [] (fun j => by rw [base, if_neg (by omega), e_d_nil]) j
    have ht := e_tab
    rw [List.all_eq_true] at ht
    rw [h1, e_eq_ok _ _ (ht b (List.mem_range.2 (by omega))) j, e_row_d (by omega)]
theorem e_M_pt {b j : Nat} : ∀ (l : List (Nat × Nat × Nat × Int)) (f f' : Nat → Nat → Int), f b j = f' b j → e_M l f b j = e_M l f' b j
  | [], _, _, h => h
  | (0, n, _, _) :: r, f, f', h => e_M_pt r _ _ (by unfold q_zero; rw [h])
  | (_ + 1, a, i, v) :: r, f, f', h => e_M_pt r _ _ (by unfold q_upd; rw [h])
/-- the cells that aren't 0 -/
def e_nz (a i : Nat) : Bool := decide (a = 1 ∧ i = 0) || decide (a = 15 ∧ i = 0) || decide (a = 120 ∧ i < 4) || decide (a = 131 ∧ i = 1) || decide (a = 132 ∧ i < 9) || decide (a = 161 ∧ i < 4)
def e_Mk : List (Nat × Nat × Nat × Int) → Bool
  | [] => true
  | (0, _, _, _) :: r => e_Mk r
  | (_ + 1, a, i, v) :: r => decide (a < 165) && (decide (v = 0) || e_nz a i) && e_Mk r
theorem e_AMk : e_Mk e_AM = true := by decide +kernel
theorem e_M_0 {b j : Nat} (h : e_nz b j = false) : ∀ (l : List (Nat × Nat × Nat × Int)) (f : Nat → Nat → Int), e_Mk l = true → f b j = 0 → e_M l f b j = 0
  | [], _, _, h0 => h0
  | (0, n, _, _) :: r, f, hk, h0 => e_M_0 h r (q_zero f n 0) hk (by unfold q_zero; rw [h0]; split <;> rfl)
  | (x + 1, a, i, v) :: r, f, hk, h0 => by
    have hk : (decide (a < 165) && (decide (v = 0) || e_nz a i) && e_Mk r) = true := hk
    simp only [Bool.and_eq_true, Bool.or_eq_true, decide_eq_true_eq] at hk
    refine e_M_0 h r (q_upd f a i v) hk.2 ?_
    by_cases c : b = a ∧ j = i
    · rw [z_ue c.1 c.2]
      rcases hk.1.2 with h1 | h1
      · exact h1
      · rw [← c.1, ← c.2, h] at h1; cases h1
    · rw [z_un c]; exact h0
theorem e_M_hi {b j : Nat} (h : 1000 ≤ b) : ∀ (l : List (Nat × Nat × Nat × Int)) (f : Nat → Nat → Int), e_Mk l = true → e_M l f b j = f b j
  | [], _, _ => rfl
  | (0, n, _, _) :: r, f, hk => by
    show e_M r (q_zero f n 0) b j = _
    rw [e_M_hi h r _ hk]
    unfold q_zero
    rw [if_neg (by omega)]
  | (x + 1, a, i, v) :: r, f, hk => by
    have hk : (decide (a < 165) && (decide (v = 0) || e_nz a i) && e_Mk r) = true := hk
    simp only [Bool.and_eq_true, decide_eq_true_eq] at hk
    show e_M r (q_upd f a i v) b j = _
    rw [e_M_hi h r _ hk.2, z_un (by omega)]
theorem e_vals : e_M e_AM (fun _ _ => 0) 1 0 = 1 ∧ e_M e_AM (fun _ _ => 0) 15 0 = 1 ∧ e_M e_AM (fun _ _ => 0) 131 1 = 1 ∧ (∀ i, i < 4 → e_M e_AM (fun _ _ => 0) 120 i = -1 ∧ e_M e_AM (fun _ _ => 0) 161 i = -1) ∧ ∀ i, i < 9 → e_M e_AM (fun _ _ => 0) 132 i = q_pr i := by decide +kernel
theorem e_first {L : Nat} {xs : Nat → Int32} : I L (e_M e_AM (q_S0 L xs).1) (L, 126, [], 2981) := by
  have b0 : ∀ a j, a < 1000 → (q_S0 L xs).1 a j = 0 := fun a j h => by
    show (if a = 1001 then (xs j).toInt else q_pr0 a j) = 0
    unfold q_pr0
    rw [if_neg (by omega), if_neg (by omega), if_neg (by omega), if_neg (by omega)]
  have pt : ∀ a j, a < 1000 → e_M e_AM (q_S0 L xs).1 a j = e_M e_AM (fun _ _ => 0) a j := fun a j h => e_M_pt _ _ _ (b0 a j h)
  have z : ∀ a j, a < 1000 → e_nz a j = false → e_M e_AM (q_S0 L xs).1 a j = 0 := fun a j h hz => e_M_0 hz _ _ e_AMk (b0 a j h)
  have hi : ∀ a j, 1000 ≤ a → e_M e_AM (q_S0 L xs).1 a j = (q_S0 L xs).1 a j := fun a j h => e_M_hi h _ _ e_AMk
  obtain ⟨v1, v15, v131, v4, v9⟩ := e_vals
  rw [← pt 1 0 (by decide)] at v1
  rw [← pt 15 0 (by decide)] at v15
  rw [← pt 131 1 (by decide)] at v131
  have w4 : ∀ i, i < 4 → e_M e_AM (q_S0 L xs).1 120 i = -1 ∧ e_M e_AM (q_S0 L xs).1 161 i = -1 := fun i h => by rw [pt 120 i (by decide), pt 161 i (by decide)]; exact v4 i h
  have w9 : ∀ i, i < 9 → e_M e_AM (q_S0 L xs).1 132 i = q_pr i := fun i h => by rw [pt 132 i (by decide)]; exact v9 i h
  have h1001 : ∀ j, e_M e_AM (q_S0 L xs).1 1001 j = (xs j).toInt := fun j => hi 1001 j (by decide)
  have h1002 : ∀ j, e_M e_AM (q_S0 L xs).1 1002 j = q_pr j := fun j => hi 1002 j (by decide)
  have h1003 : ∀ j, e_M e_AM (q_S0 L xs).1 1003 j = q_dt j := fun j => hi 1003 j (by decide)
  have h1004 : ∀ j, e_M e_AM (q_S0 L xs).1 1004 j = q_do j := fun j => hi 1004 j (by decide)
  have nz : ∀ a j, ¬ (a = 1 ∧ j = 0) → ¬ (a = 15 ∧ j = 0) → ¬ (a = 120) → ¬ (a = 131 ∧ j = 1) → ¬ a = 132 → ¬ a = 161 → a < 1000 → e_M e_AM (q_S0 L xs).1 a j = 0 := fun a j q1 q2 q3 q4 q5 q6 q7 => z a j q7 (by
    unfold e_nz
    simp only [Bool.or_eq_false_iff, decide_eq_false_iff_not]
    omega)
  generalize e_M e_AM (q_S0 L xs).1 = m at v1 v15 v131 w4 w9 h1001 h1002 h1003 h1004 nz
  refine ⟨⟨rfl, Or.inl ⟨rfl, rfl, by show 2981 ≤ 3000; decide⟩⟩, fun j => ?_, fun j _ => ⟨h1003 j, h1004 j⟩, ⟨⟨?_, ?_, ?_, ?_, fun i hi => ?_, fun s hs => ?_, fun i hi => ?_⟩, Or.inl (nz 29 0 (by omega) (by omega) (by omega) (by omega) (by omega) (by omega) (by omega)), fun j _ => h1002 j⟩, nz 72 12 (by omega) (by omega) (by omega) (by omega) (by omega) (by omega) (by omega), ⟨⟨?_, ?_, ?_, ?_⟩, fun i hi => ?_, fun s e hs he => ?_, fun i hi => ?_, fun j hj => w9 j hj⟩, Or.inl ⟨nz 0 2 (by omega) (by omega) (by omega) (by omega) (by omega) (by omega) (by omega), nz 131 47 (by omega) (by omega) (by omega) (by omega) (by omega) (by omega) (by omega)⟩, i_St_0 (nz 109 0 (by omega) (by omega) (by omega) (by omega) (by omega) (by omega) (by omega)) (nz 131 41 (by omega) (by omega) (by omega) (by omega) (by omega) (by omega) (by omega)), fun l hl => ?_, ?_, ?_, ?_⟩
  · rw [h1001]
    exact ⟨Int32.le_toInt _, Int32.toInt_lt _⟩
  · rw [v1]; decide
  · rw [nz 1 1 (by omega) (by omega) (by omega) (by omega) (by omega) (by omega) (by omega)]; decide
  · rw [nz 1 3 (by omega) (by omega) (by omega) (by omega) (by omega) (by omega) (by omega)]; decide
  · rw [nz 1 8 (by omega) (by omega) (by omega) (by omega) (by omega) (by omega) (by omega)]; decide
  · rw [nz 1 1 (by omega) (by omega) (by omega) (by omega) (by omega) (by omega) (by omega)] at hi; exact absurd hi (by omega)
  · rw [nz 1 3 (by omega) (by omega) (by omega) (by omega) (by omega) (by omega) (by omega)] at hs; exact absurd hs (by omega)
  · rw [nz 1 8 (by omega) (by omega) (by omega) (by omega) (by omega) (by omega) (by omega)] at hi; exact absurd hi (by omega)
  · rw [v131, v1]
  · rw [nz 131 3 (by omega) (by omega) (by omega) (by omega) (by omega) (by omega) (by omega), nz 1 1 (by omega) (by omega) (by omega) (by omega) (by omega) (by omega) (by omega)]
  · rw [nz 131 8 (by omega) (by omega) (by omega) (by omega) (by omega) (by omega) (by omega), nz 1 3 (by omega) (by omega) (by omega) (by omega) (by omega) (by omega) (by omega)]
  · rw [nz 131 28 (by omega) (by omega) (by omega) (by omega) (by omega) (by omega) (by omega), nz 1 8 (by omega) (by omega) (by omega) (by omega) (by omega) (by omega) (by omega)]
  · rw [nz 133 i (by omega) (by omega) (by omega) (by omega) (by omega) (by omega) (by omega), nz 134 i (by omega) (by omega) (by omega) (by omega) (by omega) (by omega) (by omega), nz 135 i (by omega) (by omega) (by omega) (by omega) (by omega) (by omega) (by omega), nz 136 i (by omega) (by omega) (by omega) (by omega) (by omega) (by omega) (by omega), nz 2 i (by omega) (by omega) (by omega) (by omega) (by omega) (by omega) (by omega), nz 3 i (by omega) (by omega) (by omega) (by omega) (by omega) (by omega) (by omega), nz 4 i (by omega) (by omega) (by omega) (by omega) (by omega) (by omega) (by omega), nz 5 i (by omega) (by omega) (by omega) (by omega) (by omega) (by omega) (by omega)]
    exact ⟨rfl, rfl, rfl, rfl⟩
  · rw [nz 137 _ (by omega) (by omega) (by omega) (by omega) (by omega) (by omega) (by omega), nz (7 + s) e (by omega) (by omega) (by omega) (by omega) (by omega) (by omega) (by omega)]
  · rw [nz 151 i (by omega) (by omega) (by omega) (by omega) (by omega) (by omega) (by omega), nz 152 i (by omega) (by omega) (by omega) (by omega) (by omega) (by omega) (by omega), nz 13 i (by omega) (by omega) (by omega) (by omega) (by omega) (by omega) (by omega), nz 14 i (by omega) (by omega) (by omega) (by omega) (by omega) (by omega) (by omega)]
    exact ⟨rfl, rfl⟩
  · obtain ⟨q1, q2⟩ := w4 l hl
    refine ⟨by rw [q1]; decide, by rw [q1]; decide, by rw [q1, q2], fun i hi => ?_⟩
    rw [nz 162 _ (by omega) (by omega) (by omega) (by omega) (by omega) (by omega) (by omega), nz (116 + l) i (by omega) (by omega) (by omega) (by omega) (by omega) (by omega) (by omega)]
    exact ⟨rfl, by unfold z_okl; decide⟩
  · have e := nz 121 1 (by omega) (by omega) (by omega) (by omega) (by omega) (by omega) (by omega)
    exact ⟨by rw [e]; decide, by rw [e]; decide, by rw [e]; exact nz 131 33 (by omega) (by omega) (by omega) (by omega) (by omega) (by omega) (by omega), fun i hi => absurd hi (by rw [e]; omega)⟩
  · have e := nz 125 3 (by omega) (by omega) (by omega) (by omega) (by omega) (by omega) (by omega)
    exact ⟨nz 125 1 (by omega) (by omega) (by omega) (by omega) (by omega) (by omega) (by omega), by rw [e]; decide, by rw [e]; decide, by rw [e]; exact nz 131 37 (by omega) (by omega) (by omega) (by omega) (by omega) (by omega) (by omega), fun _ => by rw [e]; decide, fun _ => by rw [e]; decide, fun i hi => absurd hi (by rw [e]; omega), fun j => by show -128 ≤ m 126 j ∧ m 126 j < 128; rw [nz 126 j (by omega) (by omega) (by omega) (by omega) (by omega) (by omega) (by omega)]; decide⟩
  · have e := nz 127 0 (by omega) (by omega) (by omega) (by omega) (by omega) (by omega) (by omega)
    exact ⟨by rw [e]; decide, by rw [e]; decide, by rw [e]; exact nz 131 25 (by omega) (by omega) (by omega) (by omega) (by omega) (by omega) (by omega), fun i hi => absurd hi (by rw [e]; omega)⟩
