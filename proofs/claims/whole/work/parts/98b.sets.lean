/-! THE SETS: what prime, support, sum and number touch, on the class's side and on the model's -/
def j_Ac (o : Nat) : Bool := decide (o ≤ 12) || (decide (109 ≤ o) && decide (o ≤ 113)) || (decide (1000 ≤ o) && decide (¬ o = 1001))
def j_Ec (o j : Nat) : Bool := if o = 0 ∨ o = 6 then false else if o = 1 then decide (j = 0 ∨ j = 1 ∨ j = 3) else if o = 109 then decide (j = 0) else j_Ac o
def j_Wc (o j : Nat) : Bool := j_Ec o j && decide (o < 1000)
def j_Am (o : Nat) : Bool := decide (o = 131) || (decide (133 ≤ o) && decide (o ≤ 137)) || (decide (158 ≤ o) && decide (o ≤ 160)) || (decide (1000 ≤ o) && decide (¬ o = 1001))
def j_Em (o j : Nat) : Bool := if o = 131 then decide (j = 1 ∨ j = 3 ∨ j = 8 ∨ j = 41) else j_Am o
def j_Wm (o j : Nat) : Bool := j_Em o j && decide (o < 1000)
def j_Jc : List Nat := [10, 15, 16, 17, 18, 19, 20, 21, 22, 24, 39, 40, 41, 42, 43, 44, 45, 46]
def j_Jm : List Nat := [187, 188, 189, 190, 191, 192, 193, 195, 204, 206, 207, 208, 209, 210]
def j_kdB (A : Nat → Bool) (b : Nat) (f : Nat → Bool) : Bool := (List.range 165).all (fun o => !A o || !decide ((q_sh0[o]?).map Prod.fst = some (b + 5)) || f o)
def j_okB (A : Nat → Bool) (E W : Nat → Nat → Bool) (J : List Nat) : q_I → Bool
  | (op, a, b, _, _) => if op = 24 then j_kdB A b (fun o => E o a) else if op = 25 then j_kdB A b (fun o => A (q_rfz 0 126 o a)) else if op = 26 then j_kdB A b (fun o => W o a) else if op = 28 ∨ op = 29 then decide (b < 3) else if op = 34 then decide (a = 0) || A b else if op = 50 then J.contains b else !(decide (op = 27) || decide (op = 35) || decide (op = 36) || decide (op = 37))
def j_chk (A : Nat → Bool) (E W : Nat → Nat → Bool) (J : List Nat) : Bool := J.all (fun j => (q_P j).1.all (j_okB A E W J))
theorem j_chkc : j_chk j_Ac j_Ec j_Wc j_Jc = true := by decide +kernel
theorem j_chkm : j_chk j_Am j_Em j_Wm j_Jm = true := by decide +kernel
def j_Tg (g : z_g) : j_T := (q_rfz g.1 g.2.1, q_sh0 ++ g.2.2.1, g.2.2.2)
theorem j_sh0 : q_sh0.length = 165 := by decide +kernel
theorem j_kd {A : Nat → Bool} (hA : ∀ o, A o = true → o < 165 ∨ 1000 ≤ o) {g : z_g} (hg : g.2.2.1.length ≤ 2) {o b : Nat} (ho : A o = true) (h : ((j_Tg g).2.1[o]?).map Prod.fst = some b) : o < 165 ∧ (q_sh0[o]?).map Prod.fst = some b := by
  have h2 : (((q_sh0 ++ g.2.2.1))[o]?).map Prod.fst = some b := h
  rcases hA o ho with h1 | h1
  · rw [List.getElem?_append_left (by rw [j_sh0]; exact h1)] at h2
    exact ⟨h1, h2⟩
  · rw [List.getElem?_eq_none (by rw [List.length_append, j_sh0]; omega)] at h2
    cases h2
theorem j_kdB_ok {A : Nat → Bool} (hA : ∀ o, A o = true → o < 165 ∨ 1000 ≤ o) {g : z_g} (hg : g.2.2.1.length ≤ 2) {b : Nat} {f : Nat → Bool} (h : j_kdB A b f = true) : ∀ o, A o = true → ((j_Tg g).2.1[o]?).map Prod.fst = some (b + 5) → o < 165 ∧ f o = true := by
  intro o ho hk
  obtain ⟨h1, h2⟩ := j_kd hA hg ho hk
  unfold j_kdB at h
  rw [List.all_eq_true] at h
  have := h o (List.mem_range.2 h1)
  rw [ho, h2] at this
  simp at this
  exact ⟨h1, this⟩
theorem j_rfz {L vp o a : Nat} (h1 : ¬ o = 125) (h2 : o < 165) : q_rfz L vp o a = q_rfz 0 126 o a := by
  unfold q_rfz
  rw [if_neg (by omega), if_neg (by omega), if_neg (by omega), if_neg (by omega)]
theorem j_okB_ok {A : Nat → Bool} {E W : Nat → Nat → Bool} {J : List Nat} (hA : ∀ o, A o = true → (o < 165 ∧ ¬ o = 125) ∨ 1000 ≤ o) {g : z_g} (hg : g.2.2.1.length ≤ 2) (h : j_chk A E W J = true) : ∀ j, j ∈ J → ∀ i, i ∈ (q_P j).1 → j_ok A E W (j_Tg g) J i := by
  intro j hj i hi
  unfold j_chk at h
  rw [List.all_eq_true] at h
  have h := h j hj
  rw [List.all_eq_true] at h
  have h := h i hi
  have hA' : ∀ o, A o = true → o < 165 ∨ 1000 ≤ o := fun o ho => by have := hA o ho; omega
  obtain ⟨op, a, b, z, t⟩ := i
  unfold j_okB at h
  dsimp only at h
  refine ⟨fun e => ?_, fun e => ?_, fun e => ?_, fun e => ?_, fun e => ?_, fun e => ?_, fun e => ?_, fun e => ?_, fun e => ?_, fun e => ?_, fun e => ?_⟩
  · subst e
    rw [if_pos rfl] at h
    exact fun o ho hk => (j_kdB_ok hA' hg h o ho hk).2
  · subst e
    rw [if_neg (by decide), if_pos rfl] at h
    intro o ho hk
    obtain ⟨h1, h2⟩ := j_kdB_ok hA' hg h o ho hk
    show A (q_rfz g.1 g.2.1 o a) = true
    rw [j_rfz (by have := hA o ho; omega) h1]
    exact h2
  · subst e
    rw [if_neg (by decide), if_neg (by decide), if_pos rfl] at h
    exact fun o ho hk => (j_kdB_ok hA' hg h o ho hk).2
  · subst e
    rw [if_neg (by decide), if_neg (by decide), if_neg (by decide), if_pos (by decide)] at h
    exact of_decide_eq_true h
  · subst e
    rw [if_neg (by decide), if_neg (by decide), if_neg (by decide), if_pos (by decide)] at h
    exact of_decide_eq_true h
  · subst e
    rw [if_neg (by decide), if_neg (by decide), if_neg (by decide), if_neg (by decide), if_pos rfl] at h
    intro ha
    rw [Bool.or_eq_true] at h
    rcases h with h | h
    · exact absurd (of_decide_eq_true h) ha
    · exact h
  · subst e
    rw [if_neg (by decide), if_neg (by decide), if_neg (by decide), if_neg (by decide), if_neg (by decide), if_pos rfl] at h
    exact List.contains_iff_mem.1 h
  · subst e
    rw [if_neg (by decide), if_neg (by decide), if_neg (by decide), if_neg (by decide), if_neg (by decide), if_neg (by decide)] at h
    exact absurd h (by decide)
  · subst e
    rw [if_neg (by decide), if_neg (by decide), if_neg (by decide), if_neg (by decide), if_neg (by decide), if_neg (by decide)] at h
    exact absurd h (by decide)
  · subst e
    rw [if_neg (by decide), if_neg (by decide), if_neg (by decide), if_neg (by decide), if_neg (by decide), if_neg (by decide)] at h
    exact absurd h (by decide)
  · subst e
    rw [if_neg (by decide), if_neg (by decide), if_neg (by decide), if_neg (by decide), if_neg (by decide), if_neg (by decide)] at h
    exact absurd h (by decide)
theorem j_getD {A : Nat → Bool} {l : List Nat} {j : Nat} (h1 : A 1000 = true) (h : l.all A = true) : A (l.getD j 1000) = true := by
  rw [List.getD_eq_getElem?_getD]
  cases e : l[j]? with
  | none => exact h1
  | some k =>
    rw [List.all_eq_true] at h
    exact h k (List.mem_of_getElem? e)
def j_arr (A : Nat → Bool) (E : Nat → Nat → Bool) : Bool := (List.range 165).all (fun o => !A o || (match q_sh0[o]? with
  | some (k, _) => (!decide (k < 3) || E o 0) && (!(decide (k = 3) || decide (k = 4)) || (q_rt.getD o []).all A)
  | none => true))
theorem j_arrc : j_arr j_Ac j_Ec = true := by decide +kernel
theorem j_arrm : j_arr j_Am j_Em = true := by decide +kernel
theorem j_arr_ok {A : Nat → Bool} {E : Nat → Nat → Bool} (hA : ∀ o, A o = true → o < 165 ∨ 1000 ≤ o) {g : z_g} (hg : g.2.2.1.length ≤ 2) (h : j_arr A E = true) {o k n : Nat} (ho : A o = true) (hk : (j_Tg g).2.1[o]? = some (k, n)) : o < 165 ∧ (k < 3 → E o 0 = true) ∧ ((k = 3 ∨ k = 4) → (q_rt.getD o []).all A = true) := by
  have h2 : ((q_sh0 ++ g.2.2.1))[o]? = some (k, n) := hk
  rcases hA o ho with h1 | h1
  · rw [List.getElem?_append_left (by rw [j_sh0]; exact h1)] at h2
    unfold j_arr at h
    rw [List.all_eq_true] at h
    have := h o (List.mem_range.2 h1)
    rw [ho, h2] at this
    simp only [Bool.not_true, Bool.false_or, Bool.and_eq_true, Bool.or_eq_true, Bool.not_eq_true', decide_eq_false_iff_not, decide_eq_true_eq] at this
    refine ⟨h1, fun hk3 => ?_, fun hk4 => ?_⟩
    · rcases this.1 with h | h
      · exact absurd hk3 h
      · exact h
    · rcases this.2 with h | h
      · simp at h
        omega
      · exact h
  · rw [List.getElem?_eq_none (by rw [List.length_append, j_sh0]; omega)] at h2
    cases h2
theorem j_Ac_rng {o : Nat} (h : j_Ac o = true) : (o < 165 ∧ ¬ o = 125 ∧ (o ≤ 12 ∨ (109 ≤ o ∧ o ≤ 113))) ∨ (1000 ≤ o ∧ ¬ o = 1001) := by
  unfold j_Ac at h
  simp only [Bool.or_eq_true, Bool.and_eq_true, decide_eq_true_eq] at h
  omega
theorem j_Am_rng {o : Nat} (h : j_Am o = true) : (o < 165 ∧ ¬ o = 125 ∧ (o = 131 ∨ (133 ≤ o ∧ o ≤ 137) ∨ (158 ≤ o ∧ o ≤ 160))) ∨ (1000 ≤ o ∧ ¬ o = 1001) := by
  unfold j_Am at h
  simp only [Bool.or_eq_true, Bool.and_eq_true, decide_eq_true_eq] at h
  omega
theorem j_Hc {g : z_g} (hg : g.2.2.1.length ≤ 2) : j_H j_Ac j_Ec j_Wc (j_Tg g) := by
  have hA : ∀ o, j_Ac o = true → o < 165 ∨ 1000 ≤ o := fun o ho => by have := j_Ac_rng ho; omega
  refine ⟨by decide, by decide, fun o k n ho hk k3 j => ?_, fun o ho h1 j => ?_, fun o k n ho hk k3 j => ?_, fun o j h => ?_⟩
  · obtain ⟨h1, h2, -⟩ := j_arr_ok hA hg j_arrc ho hk
    have h3 := h2 k3
    have hE : j_Ec o j = true := by
      unfold j_Ec at h3 ⊢
      by_cases c0 : o = 0 ∨ o = 6
      · rw [if_pos c0] at h3; cases h3
      · rw [if_neg c0] at h3 ⊢
        by_cases c1 : o = 1
        · subst c1
          have hk' : ((q_sh0 ++ g.2.2.1))[1]? = some (k, n) := hk
          rw [List.getElem?_append_left (by rw [j_sh0]; decide)] at hk'
          have e15 : q_sh0[1]? = some (15, 11) := by decide +kernel
          rw [e15] at hk'
          cases hk'
          omega
        · rw [if_neg c1] at h3 ⊢
          by_cases c2 : o = 109
          · subst c2
            have hk' : ((q_sh0 ++ g.2.2.1))[109]? = some (k, n) := hk
            rw [List.getElem?_append_left (by rw [j_sh0]; decide)] at hk'
            have e15 : q_sh0[109]? = some (14, 5) := by decide +kernel
            rw [e15] at hk'
            cases hk'
            omega
          · rw [if_neg c2] at h3 ⊢
            exact h3
    exact ⟨hE, by unfold j_Wc; rw [hE]; simp; omega⟩
  · unfold j_Ec
    rw [if_neg (by omega), if_neg (by omega), if_neg (by omega)]
    exact ho
  · obtain ⟨h1, -, h2⟩ := j_arr_ok hA hg j_arrc ho hk
    show j_Ac (q_rfz g.1 g.2.1 o j) = true
    have := j_Ac_rng ho
    unfold q_rfz
    rw [if_neg (by omega), if_neg (by omega)]
    exact j_getD (by decide) (h2 k3)
  · unfold j_Wc at h
    exact (Bool.and_eq_true _ _ ▸ h).1
theorem j_Hm {g : z_g} (hg : g.2.2.1.length ≤ 2) : j_H j_Am j_Em j_Wm (j_Tg g) := by
  have hA : ∀ o, j_Am o = true → o < 165 ∨ 1000 ≤ o := fun o ho => by have := j_Am_rng ho; omega
  refine ⟨by decide, by decide, fun o k n ho hk k3 j => ?_, fun o ho h1 j => ?_, fun o k n ho hk k3 j => ?_, fun o j h => ?_⟩
  · obtain ⟨h1, h2, -⟩ := j_arr_ok hA hg j_arrm ho hk
    have h3 := h2 k3
    have hE : j_Em o j = true := by
      unfold j_Em at h3 ⊢
      by_cases c1 : o = 131
      · subst c1
        have hk' : ((q_sh0 ++ g.2.2.1))[131]? = some (k, n) := hk
        rw [List.getElem?_append_left (by rw [j_sh0]; decide)] at hk'
        have e15 : q_sh0[131]? = some (18, 49) := by decide +kernel
        rw [e15] at hk'
        cases hk'
        omega
      · rw [if_neg c1] at h3 ⊢
        exact h3
    exact ⟨hE, by unfold j_Wm; rw [hE]; simp; omega⟩
  · unfold j_Em
    rw [if_neg (by omega)]
    exact ho
  · obtain ⟨h1, -, h2⟩ := j_arr_ok hA hg j_arrm ho hk
    show j_Am (q_rfz g.1 g.2.1 o j) = true
    have := j_Am_rng ho
    unfold q_rfz
    rw [if_neg (by omega), if_neg (by omega)]
    exact j_getD (by decide) (h2 k3)
  · unfold j_Wm at h
    exact (Bool.and_eq_true _ _ ▸ h).1
theorem j_OKc {g : z_g} (hg : g.2.2.1.length ≤ 2) : ∀ j, j ∈ j_Jc → ∀ i, i ∈ (q_P j).1 → j_ok j_Ac j_Ec j_Wc (j_Tg g) j_Jc i := j_okB_ok (fun o ho => by have := j_Ac_rng ho; omega) hg j_chkc
theorem j_OKm {g : z_g} (hg : g.2.2.1.length ≤ 2) : ∀ j, j ∈ j_Jm → ∀ i, i ∈ (q_P j).1 → j_ok j_Am j_Em j_Wm (j_Tg g) j_Jm i := j_okB_ok (fun o ho => by have := j_Am_rng ho; omega) hg j_chkm
theorem j_Ec_rng {o j : Nat} (h : j_Ec o j = true) : ((o ≤ 12 ∨ (109 ≤ o ∧ o ≤ 113)) ∨ (1000 ≤ o ∧ ¬ o = 1001)) ∧ ¬ o = 0 ∧ ¬ o = 6 ∧ (o = 1 → j = 0 ∨ j = 1 ∨ j = 3) ∧ (o = 109 → j = 0) := by
  unfold j_Ec at h
  by_cases c0 : o = 0 ∨ o = 6
  · rw [if_pos c0] at h; cases h
  · rw [if_neg c0] at h
    by_cases c1 : o = 1
    · rw [if_pos c1] at h
      have := of_decide_eq_true h
      omega
    · rw [if_neg c1] at h
      by_cases c2 : o = 109
      · rw [if_pos c2] at h
        have := of_decide_eq_true h
        omega
      · rw [if_neg c2] at h
        have := j_Ac_rng h
        omega
theorem j_Em_rng {o j : Nat} (h : j_Em o j = true) : ((o = 131 ∨ (133 ≤ o ∧ o ≤ 137) ∨ (158 ≤ o ∧ o ≤ 160)) ∨ (1000 ≤ o ∧ ¬ o = 1001)) ∧ (o = 131 → j = 1 ∨ j = 3 ∨ j = 8 ∨ j = 41) := by
  unfold j_Em at h
  by_cases c1 : o = 131
  · rw [if_pos c1] at h
    have := of_decide_eq_true h
    omega
  · rw [if_neg c1] at h
    have := j_Am_rng h
    omega
theorem j_Wc_rng {o j : Nat} (h : j_Wc o j = true) : j_Ec o j = true ∧ o < 1000 := by
  unfold j_Wc at h
  rw [Bool.and_eq_true, decide_eq_true_eq] at h
  exact h
theorem j_Wm_rng {o j : Nat} (h : j_Wm o j = true) : j_Em o j = true ∧ o < 1000 := by
  unfold j_Wm at h
  rw [Bool.and_eq_true, decide_eq_true_eq] at h
  exact h
/-- a state of that shape tells its parts -/
theorem j_st_inj {m1 m' : z_M} {g g1 : z_g} (h : z_st m1 g1 = (m', j_Tg g)) : m1 = m' ∧ g1 = g := by
  have h1 : m1 = m' := congrArg Prod.fst h
  have h2 : (q_rfz g1.1 g1.2.1, q_sh0 ++ g1.2.2.1, g1.2.2.2) = j_Tg g := congrArg Prod.snd h
  have e1 : q_rfz g1.1 g1.2.1 = q_rfz g.1 g.2.1 := congrArg Prod.fst h2
  have e2 : q_sh0 ++ g1.2.2.1 = q_sh0 ++ g.2.2.1 := congrArg (fun x => x.2.1) h2
  have e3 : g1.2.2.2 = g.2.2.2 := congrArg (fun x => x.2.2) h2
  have a1 : g1.2.1 = g.2.1 := congrFun (congrFun e1 125) 0
  have a2 : g1.1 = g.1 := congrFun (congrFun e1 1001) 0
  have a3 := List.append_cancel_left e2
  refine ⟨h1, ?_⟩
  obtain ⟨g11, g12, g13, g14⟩ := g1
  obtain ⟨g21, g22, g23, g24⟩ := g
  simp only at a1 a2 a3 e3
  rw [a1, a2, a3, e3]
