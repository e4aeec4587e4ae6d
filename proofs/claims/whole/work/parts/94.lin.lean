/-! PURE: equations modulo p: solved with the last unknown first, and with the first one first -/
theorem z_sum_add (f g : Nat → Int) : ∀ n, z_sum (fun k => f k + g k) n = z_sum f n + z_sum g n
  | 0 => rfl
  | n + 1 => by
    show z_sum (fun k => f k + g k) n + (f n + g n) = (z_sum f n + f n) + (z_sum g n + g n)
    rw [z_sum_add f g n]; omega
theorem z_sum_mul (a : Int) (f : Nat → Int) : ∀ n, z_sum (fun k => a * f k) n = a * z_sum f n
  | 0 => by simp [z_sum]
  | n + 1 => by
    show z_sum (fun k => a * f k) n + a * f n = a * (z_sum f n + f n)
    rw [z_sum_mul a f n, Int.mul_add]
theorem z_sum_lin (a b t : Nat → Int) (f : Int) (n : Nat) : z_sum (fun k => (a k - f * b k) * t k) n = z_sum (fun k => a k * t k) n - f * z_sum (fun k => b k * t k) n := by
  have e : (fun k => (a k - f * b k) * t k) = fun k => a k * t k + (-f) * (b k * t k) := by
    funext k
    grind
  rw [e, z_sum_add, z_sum_mul]
  grind
theorem z_sum_0 {f : Nat → Int} : ∀ {n : Nat}, (∀ k, k < n → f k = 0) → z_sum f n = 0
  | 0, _ => rfl
  | n + 1, h => by
    show z_sum f n + f n = 0
    rw [z_sum_0 (fun k hk => h k (by omega)), h n (by omega)]; rfl
theorem z_sum_one {f : Nat → Int} {c : Nat} : ∀ {n : Nat}, c < n → (∀ k, k < n → ¬ k = c → f k = 0) → z_sum f n = f c
  | 0, h, _ => absurd h (by omega)
  | n + 1, h, hz => by
    show z_sum f n + f n = f c
    by_cases hc : c = n
    · subst hc
      rw [z_sum_0 (fun k hk => hz k (by omega) (by omega)), Int.zero_add]
    · rw [z_sum_one (n := n) (by omega) (fun k hk hne => hz k (by omega) hne), hz n (by omega) (fun e => hc e.symm), Int.add_zero]
def x_cle (p : Int) (A : x_A) (row c : Nat) : x_A := fun i j => if row < i ∧ c ≤ j then (A i j - (A i c * z_inv p (A row c) % p) * A row j) % p else A i j
/-- whether what is left can be made: columns c .. w less 1, rows from row on -/
def x_el (p : Int) (n w : Nat) : Nat → Nat → Nat → x_A → Prop
  | 0, _, row, A => ∀ i, row ≤ i → i < n → A i w = 0
  | d + 1, c, row, A => if x_fst (fun i => decide (¬ A i c = 0)) (n - row) row = n then x_el p n w d (c + 1) row A else x_el p n w d (c + 1) (row + 1) (x_cle p (x_swp A (x_fst (fun i => decide (¬ A i c = 0)) (n - row) row) row) row c)
/-- t solves the rows from row on, in the columns from c on -/
def x_sv (p : Int) (n w d c row : Nat) (A : x_A) (t : Nat → Int) : Prop := ∀ i, row ≤ i → i < n → z_sum (fun j => A i (c + j) * t (c + j)) d % p = A i w % p
theorem x_cle_GR {p : Int} {n u s c : Nat} {A : x_A} (hp : z_pr p) (h : x_GR p n u A) : x_GR p n u (x_cle p A s c) := by
  intro i j hi hj
  have hp5 := z_pr_le hp
  unfold x_cle
  split
  · exact z_m0 (by omega)
  · exact h i j hi hj
/-- a factor by which the pivot's row takes the column away -/
theorem x_piv {p a b : Int} (hp : z_pr p) (hb0 : 0 < b) (hb : b < p) : (a * z_inv p b % p * b) % p = a % p := by
  have hp5 := z_pr_le hp
  have hone := (z_inv_one hp hb0 hb).1
  have e1 : (a * z_inv p b % p * b) % p = (a * (b * z_inv p b)) % p := by
    rw [z_mmul (b := a * z_inv p b) (d := b) z_mm rfl]
    congr 1
    grind
  rw [e1, z_mmul (b := a) (d := 1) rfl (by rw [hone]; exact (z_mi (by omega) (by omega)).symm), Int.mul_one]
theorem x_sv_swp {p : Int} {n w d c row r : Nat} {A : x_A} {t : Nat → Int} (hr : row ≤ r) (hrn : r < n) : x_sv p n w d c row (x_swp A r row) t ↔ x_sv p n w d c row A t := by
  have key : ∀ B : x_A, x_sv p n w d c row B t → x_sv p n w d c row (x_swp B r row) t := by
    intro B h i h1 h2
    unfold x_swp
    by_cases hir : i = r
    · simp only [if_pos hir]
      exact h row (Nat.le_refl _) (by omega)
    · simp only [if_neg hir]
      by_cases hirow : i = row
      · simp only [if_pos hirow]
        exact h r hr hrn
      · simp only [if_neg hirow]
        exact h i h1 h2
  have inv : x_swp (x_swp A r row) r row = A := by
    funext i j
    unfold x_swp
    by_cases hir : i = r
    · rw [if_pos hir]
      by_cases hrr : row = r
      · rw [if_pos hrr, hir, hrr]
      · rw [if_neg hrr, if_pos rfl, hir]
    · rw [if_neg hir]
      by_cases hirow : i = row
      · rw [if_pos hirow, if_pos rfl, hirow]
      · rw [if_neg hirow, if_neg hir, if_neg hirow]
  constructor
  · intro h
    have := key _ h
    rw [inv] at this
    exact this
  · exact key A
theorem x_el_sv {p : Int} {n w : Nat} (hp : z_pr p) : ∀ (d c row : Nat) (A : x_A), c + d = w → row ≤ n → x_GR p n w A → (x_el p n w d c row A ↔ ∃ t, x_sv p n w d c row A t)
  | 0, c, row, A, hc, hrow, hR => by
    constructor
    · intro h
      refine ⟨fun _ => 0, fun i h1 h2 => ?_⟩
      rw [h i h1 h2]; rfl
    · rintro ⟨t, h⟩ i h1 h2
      have b := hR i w h2 (Nat.le_refl _)
      have := h i h1 h2
      rw [z_mi b.1 b.2] at this
      rw [← this]; exact Int.zero_emod p
  | d + 1, c, row, A, hc, hrow, hR => by
    have hp5 := z_pr_le hp
    have hx := x_fst_rng (fun i => decide (¬ A i c = 0)) (n - row) row
    unfold x_el
    by_cases hr : x_fst (fun i => decide (¬ A i c = 0)) (n - row) row = n
    · rw [if_pos hr, x_el_sv hp d (c + 1) row A (by omega) hrow hR]
      have h0 : ∀ i, row ≤ i → i < n → A i c = 0 := fun i h1 h2 => by
        have := x_fst_n (f := fun i => decide (¬ A i c = 0)) (d := n - row) (s := row) (i := i) h1 (by omega)
        simpa using this
      have e : ∀ (t : Nat → Int) i, row ≤ i → i < n → z_sum (fun j => A i (c + j) * t (c + j)) (d + 1) = z_sum (fun j => A i (c + 1 + j) * t (c + 1 + j)) d := fun t i h1 h2 => by
        rw [z_sum_shift]
        show A i c * t c + _ = _
        rw [h0 i h1 h2, Int.zero_mul, Int.zero_add]
        refine z_sum_congr fun k _ => ?_
        rw [show c + (k + 1) = c + 1 + k by omega]
      constructor
      · rintro ⟨t, h⟩
        exact ⟨t, fun i h1 h2 => by rw [e t i h1 h2]; exact h i h1 h2⟩
      · rintro ⟨t, h⟩
        exact ⟨t, fun i h1 h2 => by rw [← e t i h1 h2]; exact h i h1 h2⟩
    · rw [if_neg hr]
      obtain ⟨r, er⟩ : ∃ r, x_fst (fun i => decide (¬ A i c = 0)) (n - row) row = r := ⟨_, rfl⟩
      rw [er] at hr hx ⊢
      have hrn : r < n := by omega
      have hpv : ¬ A r c = 0 := by
        have := x_fst_t (f := fun i => decide (¬ A i c = 0)) (d := n - row) (s := row) (by omega)
        rw [er] at this
        simpa using this
      obtain ⟨B, eB⟩ : ∃ B, x_swp A r row = B := ⟨_, rfl⟩
      have hRB : x_GR p n w B := by rw [← eB]; exact x_swp_GR hrn (by omega) hR
      have hB : ¬ B row c = 0 := by
        rw [← eB]
        unfold x_swp
        by_cases h : row = r
        · rw [if_pos h, h]; exact hpv
        · rw [if_neg h, if_pos rfl]; exact hpv
      have hBr := hRB row c (by omega) (by omega)
      have sw : ∀ t, x_sv p n w (d + 1) c row A t ↔ x_sv p n w (d + 1) c row B t := fun t => by rw [← eB]; exact (x_sv_swp hx.1 hrn).symm
      rw [eB, x_el_sv hp d (c + 1) (row + 1) _ (by omega) (by omega) (x_cle_GR hp hRB)]
      -- a row's sum, its first column apart
      have e : ∀ (t : Nat → Int) (i : Nat), z_sum (fun j => B i (c + j) * t (c + j)) (d + 1) = B i c * t c + z_sum (fun j => B i (c + 1 + j) * t (c + 1 + j)) d := fun t i => by
        rw [z_sum_shift]
        show B i c * t c + _ = _
        congr 1
        refine z_sum_congr fun k _ => ?_
        rw [show c + (k + 1) = c + 1 + k by omega]
      -- the cleared row's sum
      have eC : ∀ (t : Nat → Int) (i : Nat), row < i → z_sum (fun j => x_cle p B row c i (c + 1 + j) * t (c + 1 + j)) d % p = (z_sum (fun j => B i (c + 1 + j) * t (c + 1 + j)) d - (B i c * z_inv p (B row c) % p) * z_sum (fun j => B row (c + 1 + j) * t (c + 1 + j)) d) % p := fun t i hi => by
        rw [← z_sum_lin]
        refine z_msum fun k _ => ?_
        unfold x_cle
        rw [if_pos (by omega)]
        exact z_mmul z_mm rfl
      have pv : ∀ i, (B i c * z_inv p (B row c) % p * B row c) % p = B i c % p := fun i => x_piv hp (by omega) hBr.2
      constructor
      · rintro ⟨t, h⟩
        obtain ⟨τ, hτ⟩ : ∃ τ : Nat → Int, τ = fun j => if j = c then z_inv p (B row c) * (B row w - z_sum (fun j => B row (c + 1 + j) * t (c + 1 + j)) d) else t j := ⟨_, rfl⟩
        have hτc : τ c = z_inv p (B row c) * (B row w - z_sum (fun j => B row (c + 1 + j) * t (c + 1 + j)) d) := by rw [hτ]; exact if_pos rfl
        have hτk : ∀ k, τ (c + 1 + k) = t (c + 1 + k) := fun k => by rw [hτ]; exact if_neg (by omega)
        refine ⟨τ, (sw _).mpr fun i h1 h2 => ?_⟩
        rw [e]
        have et : z_sum (fun j => B i (c + 1 + j) * τ (c + 1 + j)) d = z_sum (fun j => B i (c + 1 + j) * t (c + 1 + j)) d := z_sum_congr fun k _ => by rw [hτk]
        rw [et, hτc]
        obtain ⟨X, eX⟩ : ∃ X, z_sum (fun j => B row (c + 1 + j) * t (c + 1 + j)) d = X := ⟨_, rfl⟩
        obtain ⟨Y, eY⟩ : ∃ Y, z_sum (fun j => B i (c + 1 + j) * t (c + 1 + j)) d = Y := ⟨_, rfl⟩
        rw [eX, eY]
        have hone := (z_inv_one hp (x := B row c) (by omega) hBr.2).1
        by_cases hi : i = row
        · subst hi
          rw [eX] at eY
          subst eY
          have e1 : (B i c * (z_inv p (B i c) * (B i w - X))) % p = (B i w - X) % p := by
            have : B i c * (z_inv p (B i c) * (B i w - X)) = (B i c * z_inv p (B i c)) * (B i w - X) := by grind
            rw [this, z_mmul (b := 1) (d := B i w - X) (by rw [hone]; exact (z_mi (by omega) (by omega)).symm) rfl, Int.one_mul]
          rw [z_madd (b := B i w - X) (d := X) e1 rfl, Int.sub_add_cancel]
        · have hc2 := h i (by omega) h2
          rw [eC t i (by omega), eX, eY] at hc2
          have ew : x_cle p B row c i w % p = (B i w - (B i c * z_inv p (B row c) % p) * B row w) % p := by
            unfold x_cle
            rw [if_pos (by omega)]
            exact z_mm
          rw [ew] at hc2
          obtain ⟨F, eF⟩ : ∃ F, B i c * z_inv p (B row c) % p = F := ⟨_, rfl⟩
          rw [eF] at hc2
          have e2 : (B i c * (z_inv p (B row c) * (B row w - X))) % p = (F * (B row w - X)) % p := by
            rw [← eF]
            have : B i c * (z_inv p (B row c) * (B row w - X)) = (B i c * z_inv p (B row c)) * (B row w - X) := by grind
            rw [this]
            exact z_mmul z_mm.symm rfl
          have e3 := z_madd (p := p) (a := Y - F * X) (b := B i w - F * B row w) (c := F * B row w) (d := F * B row w) hc2 rfl
          rw [z_madd (b := F * (B row w - X)) (d := Y) e2 rfl]
          rw [show F * (B row w - X) + Y = Y - F * X + F * B row w by grind, e3, Int.sub_add_cancel]
      · rintro ⟨t, h⟩
        have h := (sw t).mp h
        refine ⟨t, fun i h1 h2 => ?_⟩
        rw [eC t i (by omega)]
        have hi := h i (by omega) h2
        have hr0 := h row (Nat.le_refl _) (by omega)
        rw [e] at hi hr0
        obtain ⟨X, eX⟩ : ∃ X, z_sum (fun j => B row (c + 1 + j) * t (c + 1 + j)) d = X := ⟨_, rfl⟩
        obtain ⟨Y, eY⟩ : ∃ Y, z_sum (fun j => B i (c + 1 + j) * t (c + 1 + j)) d = Y := ⟨_, rfl⟩
        rw [eX] at hr0 ⊢
        rw [eY] at hi ⊢
        unfold x_cle
        rw [if_pos (by omega), z_mm]
        have pvi := pv i
        obtain ⟨F, eF⟩ : ∃ F, B i c * z_inv p (B row c) % p = F := ⟨_, rfl⟩
        rw [eF] at pvi ⊢
        -- F times the pivot's row, taken from row i
        have e1 := z_mmul (p := p) (a := F) (b := F) rfl hr0
        have e2 := z_msub hi e1
        have e3 : (B i c * t c + Y - F * (B row c * t c + X)) % p = (Y - F * X) % p := by
          have e4 : (B i c * t c - F * B row c * t c) % p = 0 := by
            rw [z_msub (b := B i c * t c) (d := B i c * t c) rfl (z_mmul pvi rfl), Int.sub_self]; rfl
          have e5 : B i c * t c + Y - F * (B row c * t c + X) = (B i c * t c - F * B row c * t c) + (Y - F * X) := by grind
          rw [e5, z_madd (b := 0) (d := Y - F * X) (by rw [e4]; rfl) rfl, Int.zero_add]
        rw [← e3, e2]
/-! the last unknown first -/
def x_sol (p : Int) (n u : Nat) (A : x_A) (t : Nat → Int) : Prop := ∀ i, i < n → z_sum (fun j => A i j * t j) u % p = A i u % p
theorem x_sol_swp {p : Int} {n u r s : Nat} {A : x_A} {t : Nat → Int} (hr : r < n) (hs : s < n) (h : x_sol p n u A t) : x_sol p n u (x_swp A r s) t := by
  intro i hi
  unfold x_swp
  by_cases hir : i = r
  · simp only [if_pos hir]
    exact h s hs
  · simp only [if_neg hir]
    by_cases his : i = s
    · simp only [if_pos his]
      exact h r hr
    · simp only [if_neg his]
      exact h i hi
theorem x_swp_swp {A : x_A} {r s : Nat} : x_swp (x_swp A r s) r s = A := by
  funext i j
  unfold x_swp
  by_cases hir : i = r
  · rw [if_pos hir]
    by_cases hrr : s = r
    · rw [if_pos hrr, hir, hrr]
    · rw [if_neg hrr, if_pos rfl, hir]
  · rw [if_neg hir]
    by_cases hirow : i = s
    · rw [if_pos hirow, if_pos rfl, hirow]
    · rw [if_neg hirow, if_neg hir, if_neg hirow]
theorem x_sol_clo {p : Int} {n u s c : Nat} {A : x_A} {t : Nat → Int} (hp : z_pr p) (hs : s < n) (hc : c < u) (hb0 : 0 < A s c) (hb : A s c < p) : x_sol p n u (x_clo p A s c) t ↔ x_sol p n u A t := by
  have hp5 := z_pr_le hp
  have hone := (z_inv_one hp hb0 hb).1
  -- its own row
  have own : z_sum (fun j => x_clo p A s c s j * t j) u % p = (z_inv p (A s c) * z_sum (fun j => A s j * t j) u) % p := by
    rw [← z_sum_mul]
    refine z_msum fun k _ => ?_
    unfold x_clo
    rw [if_pos rfl, z_mmul (b := A s k * z_inv p (A s c)) (d := t k) z_mm rfl]
    congr 1
    grind
  have oth : ∀ i, ¬ i = s → z_sum (fun j => x_clo p A s c i j * t j) u % p = (z_sum (fun j => A i j * t j) u - A i c * z_sum (fun j => x_clo p A s c s j * t j) u) % p := fun i hi => by
    rw [← z_sum_lin]
    refine z_msum fun k _ => ?_
    unfold x_clo
    rw [if_neg hi, if_pos rfl]
    exact z_mmul z_mm rfl
  have wo : x_clo p A s c s u % p = (z_inv p (A s c) * A s u) % p := by
    unfold x_clo
    rw [if_pos rfl, z_mm, Int.mul_comm]
  have wi : ∀ i, ¬ i = s → x_clo p A s c i u % p = (A i u - A i c * x_clo p A s c s u) % p := fun i hi => by
    unfold x_clo
    rw [if_neg hi, if_pos rfl, z_mm]
  constructor
  · intro h i hi
    have h0 := h s hs
    rw [own, wo] at h0
    have hs1 : z_sum (fun j => A s j * t j) u % p = A s u % p := by
      have := z_mmul (p := p) (a := A s c) (b := A s c) rfl h0
      have e : ∀ y : Int, (A s c * (z_inv p (A s c) * y)) % p = y % p := fun y => by
        rw [← Int.mul_assoc, z_mmul (b := 1) (d := y) (by rw [hone]; exact (z_mi (by omega) (by omega)).symm) rfl, Int.one_mul]
      rw [e, e] at this
      exact this
    by_cases his : i = s
    · rw [his]; exact hs1
    · have hi2 := h i hi
      rw [oth i his, wi i his] at hi2
      have h3 := z_mmul (p := p) (a := A i c) (b := A i c) rfl (h s hs)
      have := z_madd hi2 h3
      rw [Int.sub_add_cancel, Int.sub_add_cancel] at this
      exact this
  · intro h i hi
    by_cases his : i = s
    · subst his
      rw [own, wo]
      exact z_mmul rfl (h i hi)
    · rw [oth i his, wi i his]
      refine z_msub (h i hi) (z_mmul rfl ?_)
      rw [own, wo]
      exact z_mmul rfl (h s hs)
/-- what stands while the columns from c on are done -/
def x_inv (n u c s : Nat) (A : x_A) (f : Nat → Nat) : Prop := (∀ j, c ≤ j → j < u → (f j = 0 ∧ ∀ i, s ≤ i → i < n → A i j = 0) ∨ (1 ≤ f j ∧ f j ≤ s ∧ A (f j - 1) j = 1 ∧ (∀ i, i < n → ¬ i = f j - 1 → A i j = 0) ∧ ∀ k, j < k → k < u → A (f j - 1) k = 0)) ∧ (∀ i, i < s → ∃ j, c ≤ j ∧ j < u ∧ f j = i + 1) ∧ ∀ j, j < c → f j = 0
theorem x_so_inv {p : Int} {n u : Nat} (hp : z_pr p) : ∀ (c s : Nat) (A : x_A) (f : Nat → Nat), c ≤ u → s ≤ n → x_GR p n u A → x_inv n u c s A f → (x_so p n c s A f).1 ≤ n ∧ x_GR p n u (x_so p n c s A f).2.1 ∧ x_inv n u 0 (x_so p n c s A f).1 (x_so p n c s A f).2.1 (x_so p n c s A f).2.2 ∧ ∀ t, x_sol p n u (x_so p n c s A f).2.1 t ↔ x_sol p n u A t
  | 0, s, A, f, _, hs, hR, hI => ⟨hs, hR, hI, fun t => Iff.rfl⟩
  | c + 1, s, A, f, hc, hs, hR, hI => by
    have hp5 := z_pr_le hp
    have hx := x_fst_rng (fun i => decide (¬ A i c = 0)) (n - s) s
    obtain ⟨hI1, hI2, hI3⟩ := hI
    unfold x_so
    by_cases hr : x_fst (fun i => decide (¬ A i c = 0)) (n - s) s = n
    · rw [if_pos hr]
      have h0 : ∀ i, s ≤ i → i < n → A i c = 0 := fun i h1 h2 => by
        have := x_fst_n (f := fun i => decide (¬ A i c = 0)) (d := n - s) (s := s) (i := i) h1 (by omega)
        simpa using this
      refine x_so_inv hp c s A f (by omega) hs hR ⟨fun j h1 h2 => ?_, fun i hi => ?_, fun j hj => hI3 j (by omega)⟩
      · by_cases hjc : j = c
        · subst hjc
          exact Or.inl ⟨hI3 j (by omega), h0⟩
        · exact hI1 j (by omega) h2
      · obtain ⟨j, j1, j2, j3⟩ := hI2 i hi
        exact ⟨j, by omega, j2, j3⟩
    · rw [if_neg hr]
      obtain ⟨r, er⟩ : ∃ r, x_fst (fun i => decide (¬ A i c = 0)) (n - s) s = r := ⟨_, rfl⟩
      rw [er] at hr hx ⊢
      have hrn : r < n := by omega
      have hpv : ¬ A r c = 0 := by
        have := x_fst_t (f := fun i => decide (¬ A i c = 0)) (d := n - s) (s := s) (by omega)
        rw [er] at this
        simpa using this
      obtain ⟨B, eB⟩ : ∃ B, x_swp A r s = B := ⟨_, rfl⟩
      have hRB : x_GR p n u B := by rw [← eB]; exact x_swp_GR hrn (by omega) hR
      have Bs : ∀ j, B s j = A r j := fun j => by
        rw [← eB]
        unfold x_swp
        by_cases h : s = r
        · rw [if_pos h, h]
        · rw [if_neg h, if_pos rfl]
      have Bo : ∀ i j, ¬ i = r → ¬ i = s → B i j = A i j := fun i j h1 h2 => by
        rw [← eB]
        unfold x_swp
        rw [if_neg h1, if_neg h2]
      have Br : ∀ j, ¬ r = s → B r j = A s j := fun j h => by
        rw [← eB]
        unfold x_swp
        rw [if_pos rfl]
      -- what was 0 in all rows from s on still is
      have Bz : ∀ j, (∀ i, s ≤ i → i < n → A i j = 0) → ∀ i, s ≤ i → i < n → B i j = 0 := fun j hz i h1 h2 => by
        by_cases his : i = s
        · rw [his, Bs]; exact hz r hx.1 hrn
        · by_cases hir : i = r
          · rw [hir, Br j (by omega)]; exact hz s (Nat.le_refl _) (by omega)
          · rw [Bo i j hir his]; exact hz i h1 h2
      -- the pivot's row is 0 in all columns that are done
      have Bsk : ∀ k, c < k → k < u → B s k = 0 := fun k h1 h2 => by
        rw [Bs]
        rcases hI1 k (by omega) h2 with ⟨_, hz⟩ | ⟨g1, g2, _, hz, _⟩
        · exact hz r hx.1 hrn
        · exact hz r hrn (by omega)
      have hBr := hRB s c (by omega) (by omega)
      have hBp : 0 < B s c := by have := hBr.1; have e := Bs c; omega
      have hone := (z_inv_one hp hBp hBr.2).1
      obtain ⟨C, eC⟩ : ∃ C, x_clo p B s c = C := ⟨_, rfl⟩
      have Cs : ∀ j, C s j = B s j * z_inv p (B s c) % p := fun j => by
        rw [← eC]
        unfold x_clo
        rw [if_pos rfl]
      have Ck : ∀ i k, i < n → c < k → k < u → C i k = B i k := fun i k h0 h1 h2 => by
        have hb := hRB i k h0 (by omega)
        rw [← eC]
        unfold x_clo
        by_cases his : i = s
        · rw [if_pos his, Bsk k h1 h2, his, Bsk k h1 h2, Int.zero_mul, Int.zero_emod]
        · rw [if_neg his, Bsk k h1 h2, Int.zero_mul, Int.zero_emod, Int.mul_zero, Int.sub_zero, z_mi hb.1 hb.2]
      have Cc : ∀ i, i < n → ¬ i = s → C i c = 0 := fun i h0 his => by
        rw [← eC]
        unfold x_clo
        rw [if_neg his, hone, Int.mul_one, Int.sub_self]
        rfl
      obtain ⟨f', ef⟩ : ∃ f' : Nat → Nat, (fun j => if j = c then s + 1 else f j) = f' := ⟨_, rfl⟩
      have fc : f' c = s + 1 := by rw [← ef]; exact if_pos rfl
      have fo : ∀ j, ¬ j = c → f' j = f j := fun j h => by rw [← ef]; exact if_neg h
      rw [eB, eC, ef]
      have hRC : x_GR p n u C := by rw [← eC]; exact x_clo_GR hp
      have ih := x_so_inv hp c (s + 1) C f' (by omega) (by omega) hRC ⟨fun j h1 h2 => ?_, fun i hi => ?_, fun j hj => ?_⟩
      · obtain ⟨i1, i2, i3, i4⟩ := ih
        refine ⟨i1, i2, i3, fun t => ?_⟩
        rw [i4 t, ← eC, x_sol_clo hp (by omega) (by omega) hBp hBr.2]
        constructor
        · intro h
          have := x_sol_swp (r := r) (s := s) hrn (by omega) h
          rw [← eB, x_swp_swp] at this
          exact this
        · intro h
          rw [← eB]
          exact x_sol_swp hrn (by omega) h
      · by_cases hjc : j = c
        · subst hjc
          rw [fc]
          refine Or.inr ⟨by omega, Nat.le_refl _, ?_, fun i h3 h4 => ?_, fun k h3 h4 => ?_⟩
          · rw [Nat.add_sub_cancel, Cs, hone]
          · exact Cc i h3 (by omega)
          · rw [Nat.add_sub_cancel, Ck s k (by omega) h3 h4, Bsk k h3 h4]
        · rw [fo j hjc]
          rcases hI1 j (by omega) h2 with ⟨g0, hz⟩ | ⟨g1, g2, g3, hz, g4⟩
          · exact Or.inl ⟨g0, fun i h3 h4 => by rw [Ck i j h4 (by omega) h2]; exact Bz j hz i (by omega) h4⟩
          · have q1 : ¬ f j - 1 = r := by omega
            have q2 : ¬ f j - 1 = s := by omega
            refine Or.inr ⟨g1, by omega, ?_, fun i h3 h4 => ?_, fun k h3 h4 => ?_⟩
            · rw [Ck _ j (by omega) (by omega) h2, Bo _ j q1 q2]; exact g3
            · rw [Ck i j h3 (by omega) h2]
              by_cases his : i = s
              · rw [his]; exact Bsk j (by omega) h2
              · by_cases hir : i = r
                · rw [hir, Br j (by omega)]; exact hz s (by omega) (by omega)
                · rw [Bo i j hir his]; exact hz i h3 h4
            · rw [Ck _ k (by omega) (by omega) h4, Bo _ k q1 q2]; exact g4 k h3 h4
      · by_cases his : i = s
        · exact ⟨c, Nat.le_refl _, by omega, by rw [fc, his]⟩
        · obtain ⟨j, j1, j2, j3⟩ := hI2 i (by omega)
          exact ⟨j, by omega, j2, by rw [fo j (by omega)]; exact j3⟩
      · rw [fo j (by omega)]
        exact hI3 j (by omega)
/-- the least one: unknown after unknown -/
def x_lex (p : Int) (n u : Nat) (A : x_A) (b : Nat → Int) : Prop := x_sol p n u A b ∧ (∀ c, c < u → 0 ≤ b c ∧ b c < p) ∧ ∀ (t : Nat → Int) (c : Nat), c < u → x_sol p n u A t → (∀ j, j < c → t j % p = b j % p) → b c ≤ t c % p
theorem x_so_ok {p : Int} {n u : Nat} {A0 : x_A} (hp : z_pr p) (hR : x_GR p n u A0) : ((∀ i, (x_so p n u 0 A0 (fun _ => 0)).1 ≤ i → i < n → (x_so p n u 0 A0 (fun _ => 0)).2.1 i u = 0) → x_lex p n u A0 (x_byf u (x_so p n u 0 A0 (fun _ => 0)))) ∧ (∀ t, x_sol p n u A0 t → ∀ i, (x_so p n u 0 A0 (fun _ => 0)).1 ≤ i → i < n → (x_so p n u 0 A0 (fun _ => 0)).2.1 i u = 0) := by
  have hp5 := z_pr_le hp
  obtain ⟨h1, h2, h3, h4⟩ := x_so_inv hp u 0 A0 (fun _ => 0) (Nat.le_refl _) (Nat.zero_le _) hR ⟨fun j h1 h2 => by omega, fun i hi => by omega, fun j hj => rfl⟩
  obtain ⟨⟨s, A, f⟩, eR⟩ : ∃ R, x_so p n u 0 A0 (fun _ => 0) = R := ⟨_, rfl⟩
  rw [eR] at h1 h2 h3 h4 ⊢
  obtain ⟨g1, g2, -⟩ := h3
  have g1 : ∀ j, 0 ≤ j → j < u → (f j = 0 ∧ ∀ i, s ≤ i → i < n → A i j = 0) ∨ (1 ≤ f j ∧ f j ≤ s ∧ A (f j - 1) j = 1 ∧ (∀ i, i < n → ¬ i = f j - 1 → A i j = 0) ∧ ∀ k, j < k → k < u → A (f j - 1) k = 0) := g1
  have g2 : ∀ i, i < s → ∃ j, 0 ≤ j ∧ j < u ∧ f j = i + 1 := g2
  have h1 : s ≤ n := h1
  have h2 : x_GR p n u A := h2
  have h4 : ∀ t, x_sol p n u A t ↔ x_sol p n u A0 t := h4
  -- rows behind the pivots' are 0
  have rest : ∀ i, s ≤ i → i < n → ∀ j, j < u → A i j = 0 := fun i h5 h6 j hj => by
    rcases g1 j (Nat.zero_le _) hj with ⟨_, hz⟩ | ⟨k1, k2, _, hz, _⟩
    · exact hz i h5 h6
    · exact hz i h6 (by omega)
  have b0 : ∀ j, f j = 0 → x_byf u (s, A, f) j = 0 := fun j h => by
    unfold x_byf
    exact if_pos h
  have b1 : ∀ j, ¬ f j = 0 → x_byf u (s, A, f) j = A (f j - 1) u := fun j h => by
    unfold x_byf
    exact if_neg h
  refine ⟨fun hz => ?_, fun t ht i h5 h6 => ?_⟩
  · have hz : ∀ i, s ≤ i → i < n → A i u = 0 := hz
    have sol : x_sol p n u A (x_byf u (s, A, f)) := by
      intro i hi
      by_cases his : i < s
      · obtain ⟨j, -, j2, j3⟩ := g2 i his
        have hij : f j - 1 = i := by omega
        rw [z_sum_one (c := j) j2 (fun k hk hne => ?_)]
        · rcases g1 j (Nat.zero_le _) j2 with ⟨k0, _⟩ | ⟨_, _, k3, _, _⟩
          · omega
          · rw [hij] at k3
            rw [k3, b1 j (by omega), hij, Int.one_mul]
        · rcases g1 k (Nat.zero_le _) hk with ⟨k0, _⟩ | ⟨k1, k2, k3, k4, k5⟩
          · rw [b0 k k0, Int.mul_zero]
          · by_cases hik : i = f k - 1
            · -- one row, two pivots
              exfalso
              rcases g1 j (Nat.zero_le _) j2 with ⟨l0, _⟩ | ⟨l1, l2, l3, l4, l5⟩
              · omega
              · rcases Nat.lt_or_gt_of_ne hne with h | h
                · have := k5 j h j2
                  rw [← hik, ← hij] at this
                  omega
                · have := l5 k h hk
                  rw [hij, hik] at this
                  omega
            · rw [k4 i hi hik, Int.zero_mul]
      · rw [hz i (by omega) hi, z_sum_0 (fun k hk => by rw [rest i (by omega) hi k hk, Int.zero_mul])]
    refine ⟨(h4 _).mp sol, fun c hc => ?_, fun t c hc ht heq => ?_⟩
    · rcases g1 c (Nat.zero_le _) hc with ⟨k0, _⟩ | ⟨k1, k2, _, _, _⟩
      · rw [b0 c k0]; omega
      · rw [b1 c (by omega)]
        exact h2 _ u (by omega) (Nat.le_refl _)
    · rcases g1 c (Nat.zero_le _) hc with ⟨k0, _⟩ | ⟨k1, k2, k3, k4, k5⟩
      · rw [b0 c k0]
        exact (z_m0 (by omega)).1
      · -- the row of c says what it is
        have ht2 := (h4 t).mpr ht (f c - 1) (by omega)
        have hb := h2 (f c - 1) u (by omega) (Nat.le_refl _)
        rw [z_mi hb.1 hb.2] at ht2
        rw [b1 c (by omega), ← ht2]
        have e : z_sum (fun j => A (f c - 1) j * t j) u % p = z_sum (fun j => if j = c then t c else 0) u % p := by
          refine z_msum fun k hk => ?_
          by_cases hkc : k = c
          · rw [hkc, k3, Int.one_mul, if_pos rfl]
          · rw [if_neg hkc]
            rcases Nat.lt_or_gt_of_ne hkc with h | h
            · rcases g1 k (Nat.zero_le _) hk with ⟨l0, _⟩ | ⟨l1, l2, l3, l4, l5⟩
              · have := heq k h
                rw [b0 k l0] at this
                rw [z_mmul (b := A (f c - 1) k) (d := 0) rfl this, Int.mul_zero]
              · by_cases hcc : f c - 1 = f k - 1
                · have := l5 c h hc
                  rw [← hcc, k3] at this
                  omega
                · rw [l4 (f c - 1) (by omega) hcc, Int.zero_mul]
            · rw [k5 k h hk, Int.zero_mul]
        rw [e, z_sum_one (c := c) hc (fun k hk hne => if_neg hne), if_pos rfl]
        exact Int.le_refl _
  · have h5 : s ≤ i := h5
    have hb := h2 i u h6 (Nat.le_refl _)
    have := (h4 t).mpr ht i h6
    rw [z_mi hb.1 hb.2, z_sum_0 (fun k hk => by rw [rest i h5 h6 k hk, Int.zero_mul])] at this
    show A i u = 0
    rw [← this]
    exact Int.zero_emod p
