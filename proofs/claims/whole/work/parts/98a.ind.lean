/-! WHAT A RUN OF SOME METHODS TOUCHES: A: places that may be held; E: cells that may be read; W: cells that may be written. Two states that agree on E run alike. -/
abbrev j_T : Type := (Nat → Nat → Nat) × List (Nat × Nat) × Nat
theorem q_cp_n' {m : z_M} {a i b j n c k : Nat} (h : ¬ (c = b ∧ j ≤ k ∧ k < j + n)) : q_cpy m a i b j n c k = m c k := if_neg h
def j_in (A : Nat → Bool) : q_V → Prop
  | .inr (.inr k) => A k = true
  | _ => True
def j_all (A : Nat → Bool) (l : List q_V) : Prop := ∀ v ∈ l, j_in A v
theorem j_nil {A : Nat → Bool} : j_all A [] := fun _ h => absurd h List.not_mem_nil
theorem j_cons {A : Nat → Bool} {v : q_V} {r : List q_V} (h1 : j_in A v) (h2 : j_all A r) : j_all A (v :: r) := fun x hx => by
  rw [List.mem_cons] at hx
  rcases hx with h | h
  · rw [h]; exact h1
  · exact h2 x h
theorem j_hd {A : Nat → Bool} {v : q_V} {r : List q_V} (h : j_all A (v :: r)) : j_in A v := h v List.mem_cons_self
theorem j_tl {A : Nat → Bool} {v : q_V} {r : List q_V} (h : j_all A (v :: r)) : j_all A r := fun x hx => h x (List.mem_cons_of_mem _ hx)
theorem j_get {A : Nat → Bool} {l : List q_V} {i : Nat} {v : q_V} (h : j_all A l) (e : l[i]? = some v) : j_in A v := h v (List.mem_of_getElem? e)
theorem j_set {A : Nat → Bool} {l : List q_V} {i : Nat} {v : q_V} (h : j_all A l) (hv : j_in A v) : j_all A (l.set i v) := fun x hx => by
  rcases List.mem_or_eq_of_mem_set hx with h1 | h1
  · exact h x h1
  · rw [h1]; exact hv
theorem j_cut {A : Nat → Bool} (h9 : A 1009 = true) {l : List q_V} {i : Nat} (h : j_all A l) : j_all A (q_cut l i) := by
  unfold q_cut
  split
  · exact h
  · split
    · exact j_set h h9
    · exact h
theorem j_set1 {A : Nat → Bool} (h9 : A 1009 = true) {l : List q_V} {i : Nat} {v : q_V} (h : j_all A l) (hv : j_in A v) : j_all A (q_set1 l i v) := j_set (j_cut h9 h) hv
theorem j_set2 {A : Nat → Bool} (h9 : A 1009 = true) {l : List q_V} {i : Nat} {v : q_V} (h : j_all A l) (hv : j_in A v) : j_all A (q_set2 l i v) := j_set (j_set (j_cut h9 h) hv) h9
theorem j_args {A : Nat → Bool} (h9 : A 1009 = true) : ∀ {l : List q_V}, j_all A l → j_all A (q_args l)
  | [], _ => j_nil
  | .inl _ :: _, h => j_cons trivial (j_args h9 (j_tl h))
  | .inr (.inl _) :: _, h => j_cons trivial (j_cons h9 (j_args h9 (j_tl h)))
  | .inr (.inr _) :: _, h => j_cons (j_hd h) (j_args h9 (j_tl h))
theorem j_pad {A : Nat → Bool} (h9 : A 1009 = true) {l : List q_V} {n : Nat} (h : j_all A l) : j_all A (q_pad l n) := fun x hx => by
  unfold q_pad at hx
  rw [List.mem_append] at hx
  rcases hx with h1 | h1
  · exact h x h1
  · rw [(List.mem_replicate.1 h1).2]; exact h9
theorem j_push {A : Nat → Bool} {v : q_V} {r : List q_V} (h1 : j_in A v) (h2 : j_all A r) : j_all A (q_push v r) := by
  unfold q_push
  split
  · exact h2
  · exact j_cons h1 h2
/-- what is asked of an instruction -/
def j_ok (A : Nat → Bool) (E W : Nat → Nat → Bool) (T : j_T) (J : List Nat) : q_I → Prop
  | (op, a, b, _, _) => (op = 24 → ∀ o, A o = true → (T.2.1[o]?).map Prod.fst = some (b + 5) → E o a = true) ∧ (op = 25 → ∀ o, A o = true → (T.2.1[o]?).map Prod.fst = some (b + 5) → A (T.1 o a) = true) ∧ (op = 26 → ∀ o, A o = true → (T.2.1[o]?).map Prod.fst = some (b + 5) → W o a = true) ∧ (op = 28 → b < 3) ∧ (op = 29 → b < 3) ∧ (op = 34 → ¬ a = 0 → A b = true) ∧ (op = 50 → b ∈ J) ∧ ¬ op = 27 ∧ ¬ op = 35 ∧ ¬ op = 36 ∧ ¬ op = 37
/-- what is asked of the sets -/
def j_H (A : Nat → Bool) (E W : Nat → Nat → Bool) (T : j_T) : Prop := A 1009 = true ∧ A 1001 = false ∧ (∀ o k n, A o = true → T.2.1[o]? = some (k, n) → k < 3 → ∀ j, E o j = true ∧ W o j = true) ∧ (∀ o, A o = true → 1000 ≤ o → ∀ j, E o j = true) ∧ (∀ o k n, A o = true → T.2.1[o]? = some (k, n) → (k = 3 ∨ k = 4) → ∀ j, A (T.1 o j) = true) ∧ ∀ o j, W o j = true → E o j = true
/-- what one step gives -/
def j_C (A : Nat → Bool) (E W : Nat → Nat → Bool) (T : j_T) (m : z_M) (f : q_S → Option q_C) (x : q_C) : Prop := ∃ m', x.2.2.2 = (m', T) ∧ j_all A x.2.1 ∧ j_all A x.2.2.1 ∧ (∀ a j, ¬ W a j = true → m' a j = m a j) ∧ ∀ m2 : z_M, (∀ a j, E a j = true → m2 a j = m a j) → ∃ m2', f (m2, T) = some (x.1, x.2.1, x.2.2.1, (m2', T)) ∧ (∀ a j, E a j = true → m2' a j = m' a j) ∧ ∀ a j, ¬ W a j = true → m2' a j = m2 a j
theorem j_pure {A : Nat → Bool} {E W : Nat → Nat → Bool} {T : j_T} {m : z_M} {f : q_S → Option q_C} {pc : Nat} {ls st : List q_V} (hl : j_all A ls) (hs : j_all A st) (hf : ∀ m2 : z_M, (∀ a j, E a j = true → m2 a j = m a j) → f (m2, T) = some (pc, ls, st, (m2, T))) : j_C A E W T m f (pc, ls, st, (m, T)) :=
  ⟨m, rfl, hl, hs, fun _ _ _ => rfl, fun m2 e => ⟨m2, hf m2 e, e, fun _ _ _ => rfl⟩⟩
/-- a cell written -/
theorem j_wr {A : Nat → Bool} {E W : Nat → Nat → Bool} {T : j_T} {m : z_M} {f : q_S → Option q_C} {pc : Nat} {ls st : List q_V} {o i : Nat} {v : Int} (hw : W o i = true) (hl : j_all A ls) (hs : j_all A st) (hf : ∀ m2 : z_M, (∀ a j, E a j = true → m2 a j = m a j) → f (m2, T) = some (pc, ls, st, (q_upd m2 o i v, T))) : j_C A E W T m f (pc, ls, st, (q_upd m o i v, T)) :=
  ⟨_, rfl, hl, hs, fun a j h => z_un (fun hh => h (by rw [hh.1, hh.2]; exact hw)), fun m2 e => ⟨_, hf m2 e, fun a j h => by
    by_cases c : a = o ∧ j = i
    · rw [z_ue c.1 c.2, z_ue c.1 c.2]
    · rw [z_un c, z_un c]; exact e a j h, fun a j h => z_un (fun hh => h (by rw [hh.1, hh.2]; exact hw))⟩⟩
theorem j_s0 {A : Nat → Bool} {E W : Nat → Nat → Bool} {T : j_T} {J : List Nat} {m : z_M} {pc a b : Nat} {z : Int} {t : List Nat} {ls st : List q_V} {x : q_C} (hH : j_H A E W T) (hi : j_ok A E W T J (0, a, b, z, t)) (hl : j_all A ls) (hs : j_all A st) (h : q_step (0, a, b, z, t) pc ls st (m, T) = some x) : j_C A E W T m (q_step (0, a, b, z, t) pc ls st) x := by
  obtain ⟨h9, h1001, hA, hA2, hR, hWE⟩ := hH
  simp only [q_step] at h
  split at h
  · rename_i e
    cases h
    exact j_pure hl (j_cons trivial hs) (fun m2 _ => by simp only [q_step, e])
  · cases h
theorem j_s1 {A : Nat → Bool} {E W : Nat → Nat → Bool} {T : j_T} {J : List Nat} {m : z_M} {pc a b : Nat} {z : Int} {t : List Nat} {ls st : List q_V} {x : q_C} (hH : j_H A E W T) (hi : j_ok A E W T J (1, a, b, z, t)) (hl : j_all A ls) (hs : j_all A st) (h : q_step (1, a, b, z, t) pc ls st (m, T) = some x) : j_C A E W T m (q_step (1, a, b, z, t) pc ls st) x := by
  obtain ⟨h9, h1001, hA, hA2, hR, hWE⟩ := hH
  simp only [q_step] at h
  split at h
  · rename_i e
    cases h
    exact j_pure hl (j_cons trivial hs) (fun m2 _ => by simp only [q_step, e])
  · cases h
theorem j_s2 {A : Nat → Bool} {E W : Nat → Nat → Bool} {T : j_T} {J : List Nat} {m : z_M} {pc a b : Nat} {z : Int} {t : List Nat} {ls st : List q_V} {x : q_C} (hH : j_H A E W T) (hi : j_ok A E W T J (2, a, b, z, t)) (hl : j_all A ls) (hs : j_all A st) (h : q_step (2, a, b, z, t) pc ls st (m, T) = some x) : j_C A E W T m (q_step (2, a, b, z, t) pc ls st) x := by
  obtain ⟨h9, h1001, hA, hA2, hR, hWE⟩ := hH
  simp only [q_step] at h
  split at h
  · rename_i e
    split at h
    · rename_i c
      cases h
      exact j_pure hl (j_cons (j_get hl e) hs) (fun m2 _ => by simp only [q_step, e]; rw [if_pos c])
    · cases h
  · cases h
theorem j_s3 {A : Nat → Bool} {E W : Nat → Nat → Bool} {T : j_T} {J : List Nat} {m : z_M} {pc a b : Nat} {z : Int} {t : List Nat} {ls st : List q_V} {x : q_C} (hH : j_H A E W T) (hi : j_ok A E W T J (3, a, b, z, t)) (hl : j_all A ls) (hs : j_all A st) (h : q_step (3, a, b, z, t) pc ls st (m, T) = some x) : j_C A E W T m (q_step (3, a, b, z, t) pc ls st) x := by
  obtain ⟨h9, h1001, hA, hA2, hR, hWE⟩ := hH
  simp only [q_step] at h
  split at h
  · split at h
    · rename_i c
      cases h
      exact j_pure (j_set1 h9 hl trivial) (j_tl hs) (fun m2 _ => by simp only [q_step]; rw [if_pos c])
    · cases h
  · cases h
theorem j_s4 {A : Nat → Bool} {E W : Nat → Nat → Bool} {T : j_T} {J : List Nat} {m : z_M} {pc a b : Nat} {z : Int} {t : List Nat} {ls st : List q_V} {x : q_C} (hH : j_H A E W T) (hi : j_ok A E W T J (4, a, b, z, t)) (hl : j_all A ls) (hs : j_all A st) (h : q_step (4, a, b, z, t) pc ls st (m, T) = some x) : j_C A E W T m (q_step (4, a, b, z, t) pc ls st) x := by
  obtain ⟨h9, h1001, hA, hA2, hR, hWE⟩ := hH
  simp only [q_step] at h
  split at h
  · split at h
    · rename_i c
      cases h
      exact j_pure (j_set2 h9 hl trivial) (j_tl hs) (fun m2 _ => by simp only [q_step]; rw [if_pos c])
    · cases h
  · cases h
theorem j_s5 {A : Nat → Bool} {E W : Nat → Nat → Bool} {T : j_T} {J : List Nat} {m : z_M} {pc a b : Nat} {z : Int} {t : List Nat} {ls st : List q_V} {x : q_C} (hH : j_H A E W T) (hi : j_ok A E W T J (5, a, b, z, t)) (hl : j_all A ls) (hs : j_all A st) (h : q_step (5, a, b, z, t) pc ls st (m, T) = some x) : j_C A E W T m (q_step (5, a, b, z, t) pc ls st) x := by
  obtain ⟨h9, h1001, hA, hA2, hR, hWE⟩ := hH
  simp only [q_step] at h
  split at h
  · split at h
    · rename_i c
      cases h
      exact j_pure (j_set1 h9 hl (j_hd hs)) (j_tl hs) (fun m2 _ => by simp only [q_step]; rw [if_pos c])
    · cases h
  · cases h
theorem j_s6 {A : Nat → Bool} {E W : Nat → Nat → Bool} {T : j_T} {J : List Nat} {m : z_M} {pc a b : Nat} {z : Int} {t : List Nat} {ls st : List q_V} {x : q_C} (hH : j_H A E W T) (hi : j_ok A E W T J (6, a, b, z, t)) (hl : j_all A ls) (hs : j_all A st) (h : q_step (6, a, b, z, t) pc ls st (m, T) = some x) : j_C A E W T m (q_step (6, a, b, z, t) pc ls st) x := by
  obtain ⟨h9, h1001, hA, hA2, hR, hWE⟩ := hH
  simp only [q_step] at h
  cases h
  exact j_pure hl (j_cons trivial hs) (fun m2 _ => rfl)
theorem j_s7 {A : Nat → Bool} {E W : Nat → Nat → Bool} {T : j_T} {J : List Nat} {m : z_M} {pc a b : Nat} {z : Int} {t : List Nat} {ls st : List q_V} {x : q_C} (hH : j_H A E W T) (hi : j_ok A E W T J (7, a, b, z, t)) (hl : j_all A ls) (hs : j_all A st) (h : q_step (7, a, b, z, t) pc ls st (m, T) = some x) : j_C A E W T m (q_step (7, a, b, z, t) pc ls st) x := by
  obtain ⟨h9, h1001, hA, hA2, hR, hWE⟩ := hH
  simp only [q_step] at h
  cases h
  exact j_pure hl (j_cons trivial hs) (fun m2 _ => rfl)
theorem j_s8 {A : Nat → Bool} {E W : Nat → Nat → Bool} {T : j_T} {J : List Nat} {m : z_M} {pc a b : Nat} {z : Int} {t : List Nat} {ls st : List q_V} {x : q_C} (hH : j_H A E W T) (hi : j_ok A E W T J (8, a, b, z, t)) (hl : j_all A ls) (hs : j_all A st) (h : q_step (8, a, b, z, t) pc ls st (m, T) = some x) : j_C A E W T m (q_step (8, a, b, z, t) pc ls st) x := by
  obtain ⟨h9, h1001, hA, hA2, hR, hWE⟩ := hH
  simp only [q_step] at h
  split at h
  · split at h
    · cases h
    · rename_i c
      cases h
      exact j_pure hl (j_cons trivial (j_tl (j_tl hs))) (fun m2 _ => by simp only [q_step]; rw [if_neg c])
  · cases h
theorem j_s10 {A : Nat → Bool} {E W : Nat → Nat → Bool} {T : j_T} {J : List Nat} {m : z_M} {pc a b : Nat} {z : Int} {t : List Nat} {ls st : List q_V} {x : q_C} (hH : j_H A E W T) (hi : j_ok A E W T J (10, a, b, z, t)) (hl : j_all A ls) (hs : j_all A st) (h : q_step (10, a, b, z, t) pc ls st (m, T) = some x) : j_C A E W T m (q_step (10, a, b, z, t) pc ls st) x := by
  obtain ⟨h9, h1001, hA, hA2, hR, hWE⟩ := hH
  simp only [q_step] at h
  split at h
  · split at h
    · cases h
    · rename_i c
      cases h
      exact j_pure hl (j_cons trivial (j_tl (j_tl hs))) (fun m2 _ => by simp only [q_step]; rw [if_neg c])
  · cases h
theorem j_s9 {A : Nat → Bool} {E W : Nat → Nat → Bool} {T : j_T} {J : List Nat} {m : z_M} {pc a b : Nat} {z : Int} {t : List Nat} {ls st : List q_V} {x : q_C} (hH : j_H A E W T) (hi : j_ok A E W T J (9, a, b, z, t)) (hl : j_all A ls) (hs : j_all A st) (h : q_step (9, a, b, z, t) pc ls st (m, T) = some x) : j_C A E W T m (q_step (9, a, b, z, t) pc ls st) x := by
  obtain ⟨h9, h1001, hA, hA2, hR, hWE⟩ := hH
  simp only [q_step] at h
  split at h
  · cases h
    exact j_pure hl (j_cons trivial (j_tl hs)) (fun m2 _ => by simp only [q_step])
  · cases h
theorem j_s11 {A : Nat → Bool} {E W : Nat → Nat → Bool} {T : j_T} {J : List Nat} {m : z_M} {pc a b : Nat} {z : Int} {t : List Nat} {ls st : List q_V} {x : q_C} (hH : j_H A E W T) (hi : j_ok A E W T J (11, a, b, z, t)) (hl : j_all A ls) (hs : j_all A st) (h : q_step (11, a, b, z, t) pc ls st (m, T) = some x) : j_C A E W T m (q_step (11, a, b, z, t) pc ls st) x := by
  obtain ⟨h9, h1001, hA, hA2, hR, hWE⟩ := hH
  simp only [q_step] at h
  split at h
  · cases h
    exact j_pure hl (j_cons trivial (j_tl (j_tl hs))) (fun m2 _ => by simp only [q_step])
  · cases h
theorem j_s12 {A : Nat → Bool} {E W : Nat → Nat → Bool} {T : j_T} {J : List Nat} {m : z_M} {pc a b : Nat} {z : Int} {t : List Nat} {ls st : List q_V} {x : q_C} (hH : j_H A E W T) (hi : j_ok A E W T J (12, a, b, z, t)) (hl : j_all A ls) (hs : j_all A st) (h : q_step (12, a, b, z, t) pc ls st (m, T) = some x) : j_C A E W T m (q_step (12, a, b, z, t) pc ls st) x := by
  obtain ⟨h9, h1001, hA, hA2, hR, hWE⟩ := hH
  simp only [q_step] at h
  split at h
  · cases h
    exact j_pure hl (j_cons trivial (j_tl (j_tl hs))) (fun m2 _ => by simp only [q_step])
  · cases h
theorem j_s13 {A : Nat → Bool} {E W : Nat → Nat → Bool} {T : j_T} {J : List Nat} {m : z_M} {pc a b : Nat} {z : Int} {t : List Nat} {ls st : List q_V} {x : q_C} (hH : j_H A E W T) (hi : j_ok A E W T J (13, a, b, z, t)) (hl : j_all A ls) (hs : j_all A st) (h : q_step (13, a, b, z, t) pc ls st (m, T) = some x) : j_C A E W T m (q_step (13, a, b, z, t) pc ls st) x := by
  obtain ⟨h9, h1001, hA, hA2, hR, hWE⟩ := hH
  simp only [q_step] at h
  split at h
  · cases h
    exact j_pure hl (j_cons trivial (j_tl hs)) (fun m2 _ => by simp only [q_step])
  · cases h
theorem j_s14 {A : Nat → Bool} {E W : Nat → Nat → Bool} {T : j_T} {J : List Nat} {m : z_M} {pc a b : Nat} {z : Int} {t : List Nat} {ls st : List q_V} {x : q_C} (hH : j_H A E W T) (hi : j_ok A E W T J (14, a, b, z, t)) (hl : j_all A ls) (hs : j_all A st) (h : q_step (14, a, b, z, t) pc ls st (m, T) = some x) : j_C A E W T m (q_step (14, a, b, z, t) pc ls st) x := by
  obtain ⟨h9, h1001, hA, hA2, hR, hWE⟩ := hH
  simp only [q_step] at h
  split at h
  · cases h
    exact j_pure hl (j_cons trivial (j_tl hs)) (fun m2 _ => by simp only [q_step])
  · cases h
theorem j_s15 {A : Nat → Bool} {E W : Nat → Nat → Bool} {T : j_T} {J : List Nat} {m : z_M} {pc a b : Nat} {z : Int} {t : List Nat} {ls st : List q_V} {x : q_C} (hH : j_H A E W T) (hi : j_ok A E W T J (15, a, b, z, t)) (hl : j_all A ls) (hs : j_all A st) (h : q_step (15, a, b, z, t) pc ls st (m, T) = some x) : j_C A E W T m (q_step (15, a, b, z, t) pc ls st) x := by
  obtain ⟨h9, h1001, hA, hA2, hR, hWE⟩ := hH
  simp only [q_step] at h
  split at h
  · cases h
    exact j_pure hl (j_cons trivial (j_tl hs)) (fun m2 _ => by simp only [q_step])
  · cases h
theorem j_s16 {A : Nat → Bool} {E W : Nat → Nat → Bool} {T : j_T} {J : List Nat} {m : z_M} {pc a b : Nat} {z : Int} {t : List Nat} {ls st : List q_V} {x : q_C} (hH : j_H A E W T) (hi : j_ok A E W T J (16, a, b, z, t)) (hl : j_all A ls) (hs : j_all A st) (h : q_step (16, a, b, z, t) pc ls st (m, T) = some x) : j_C A E W T m (q_step (16, a, b, z, t) pc ls st) x := by
  obtain ⟨h9, h1001, hA, hA2, hR, hWE⟩ := hH
  simp only [q_step] at h
  split at h
  · cases h
    exact j_pure hl (j_cons trivial (j_tl hs)) (fun m2 _ => by simp only [q_step])
  · cases h
theorem j_s17 {A : Nat → Bool} {E W : Nat → Nat → Bool} {T : j_T} {J : List Nat} {m : z_M} {pc a b : Nat} {z : Int} {t : List Nat} {ls st : List q_V} {x : q_C} (hH : j_H A E W T) (hi : j_ok A E W T J (17, a, b, z, t)) (hl : j_all A ls) (hs : j_all A st) (h : q_step (17, a, b, z, t) pc ls st (m, T) = some x) : j_C A E W T m (q_step (17, a, b, z, t) pc ls st) x := by
  obtain ⟨h9, h1001, hA, hA2, hR, hWE⟩ := hH
  simp only [q_step] at h
  split at h
  · cases h
    exact j_pure hl (j_tl hs) (fun m2 _ => by simp only [q_step])
  · cases h
theorem j_s18 {A : Nat → Bool} {E W : Nat → Nat → Bool} {T : j_T} {J : List Nat} {m : z_M} {pc a b : Nat} {z : Int} {t : List Nat} {ls st : List q_V} {x : q_C} (hH : j_H A E W T) (hi : j_ok A E W T J (18, a, b, z, t)) (hl : j_all A ls) (hs : j_all A st) (h : q_step (18, a, b, z, t) pc ls st (m, T) = some x) : j_C A E W T m (q_step (18, a, b, z, t) pc ls st) x := by
  obtain ⟨h9, h1001, hA, hA2, hR, hWE⟩ := hH
  simp only [q_step] at h
  split at h
  · cases h
    exact j_pure hl (j_tl (j_tl hs)) (fun m2 _ => by simp only [q_step])
  · cases h
theorem j_s38 {A : Nat → Bool} {E W : Nat → Nat → Bool} {T : j_T} {J : List Nat} {m : z_M} {pc a b : Nat} {z : Int} {t : List Nat} {ls st : List q_V} {x : q_C} (hH : j_H A E W T) (hi : j_ok A E W T J (38, a, b, z, t)) (hl : j_all A ls) (hs : j_all A st) (h : q_step (38, a, b, z, t) pc ls st (m, T) = some x) : j_C A E W T m (q_step (38, a, b, z, t) pc ls st) x := by
  obtain ⟨h9, h1001, hA, hA2, hR, hWE⟩ := hH
  simp only [q_step] at h
  split at h
  · cases h
    exact j_pure hl (j_tl hs) (fun m2 _ => by simp only [q_step])
  · cases h
theorem j_s39 {A : Nat → Bool} {E W : Nat → Nat → Bool} {T : j_T} {J : List Nat} {m : z_M} {pc a b : Nat} {z : Int} {t : List Nat} {ls st : List q_V} {x : q_C} (hH : j_H A E W T) (hi : j_ok A E W T J (39, a, b, z, t)) (hl : j_all A ls) (hs : j_all A st) (h : q_step (39, a, b, z, t) pc ls st (m, T) = some x) : j_C A E W T m (q_step (39, a, b, z, t) pc ls st) x := by
  obtain ⟨h9, h1001, hA, hA2, hR, hWE⟩ := hH
  simp only [q_step] at h
  split at h
  · cases h
    exact j_pure hl (j_tl hs) (fun m2 _ => by simp only [q_step])
  · cases h
theorem j_s19 {A : Nat → Bool} {E W : Nat → Nat → Bool} {T : j_T} {J : List Nat} {m : z_M} {pc a b : Nat} {z : Int} {t : List Nat} {ls st : List q_V} {x : q_C} (hH : j_H A E W T) (hi : j_ok A E W T J (19, a, b, z, t)) (hl : j_all A ls) (hs : j_all A st) (h : q_step (19, a, b, z, t) pc ls st (m, T) = some x) : j_C A E W T m (q_step (19, a, b, z, t) pc ls st) x := by
  obtain ⟨h9, h1001, hA, hA2, hR, hWE⟩ := hH
  simp only [q_step] at h
  cases h
  exact j_pure hl hs (fun m2 _ => rfl)
theorem j_s20 {A : Nat → Bool} {E W : Nat → Nat → Bool} {T : j_T} {J : List Nat} {m : z_M} {pc a b : Nat} {z : Int} {t : List Nat} {ls st : List q_V} {x : q_C} (hH : j_H A E W T) (hi : j_ok A E W T J (20, a, b, z, t)) (hl : j_all A ls) (hs : j_all A st) (h : q_step (20, a, b, z, t) pc ls st (m, T) = some x) : j_C A E W T m (q_step (20, a, b, z, t) pc ls st) x := by
  obtain ⟨h9, h1001, hA, hA2, hR, hWE⟩ := hH
  simp only [q_step] at h
  split at h
  · rename_i e
    cases h
    exact j_pure (j_set1 h9 hl trivial) hs (fun m2 _ => by simp only [q_step, e])
  · cases h
theorem j_s21 {A : Nat → Bool} {E W : Nat → Nat → Bool} {T : j_T} {J : List Nat} {m : z_M} {pc a b : Nat} {z : Int} {t : List Nat} {ls st : List q_V} {x : q_C} (hH : j_H A E W T) (hi : j_ok A E W T J (21, a, b, z, t)) (hl : j_all A ls) (hs : j_all A st) (h : q_step (21, a, b, z, t) pc ls st (m, T) = some x) : j_C A E W T m (q_step (21, a, b, z, t) pc ls st) x := by
  obtain ⟨h9, h1001, hA, hA2, hR, hWE⟩ := hH
  simp only [q_step] at h
  split at h
  · cases h
    exact j_pure hl (j_cons trivial hs) (fun m2 _ => by simp only [q_step])
  · cases h
    exact j_pure hl (j_cons (j_hd hs) hs) (fun m2 _ => by simp only [q_step])
  · cases h
theorem j_s22 {A : Nat → Bool} {E W : Nat → Nat → Bool} {T : j_T} {J : List Nat} {m : z_M} {pc a b : Nat} {z : Int} {t : List Nat} {ls st : List q_V} {x : q_C} (hH : j_H A E W T) (hi : j_ok A E W T J (22, a, b, z, t)) (hl : j_all A ls) (hs : j_all A st) (h : q_step (22, a, b, z, t) pc ls st (m, T) = some x) : j_C A E W T m (q_step (22, a, b, z, t) pc ls st) x := by
  obtain ⟨h9, h1001, hA, hA2, hR, hWE⟩ := hH
  simp only [q_step] at h
  split at h
  · cases h
    exact j_pure hl (j_tl hs) (fun m2 _ => by simp only [q_step])
  · cases h
    exact j_pure hl (j_tl hs) (fun m2 _ => by simp only [q_step])
  · cases h
theorem j_s23 {A : Nat → Bool} {E W : Nat → Nat → Bool} {T : j_T} {J : List Nat} {m : z_M} {pc a b : Nat} {z : Int} {t : List Nat} {ls st : List q_V} {x : q_C} (hH : j_H A E W T) (hi : j_ok A E W T J (23, a, b, z, t)) (hl : j_all A ls) (hs : j_all A st) (h : q_step (23, a, b, z, t) pc ls st (m, T) = some x) : j_C A E W T m (q_step (23, a, b, z, t) pc ls st) x := by
  obtain ⟨h9, h1001, hA, hA2, hR, hWE⟩ := hH
  simp only [q_step] at h
  split at h
  · cases h
    exact j_pure hl (j_cons trivial (j_cons (j_hd (j_tl hs)) (j_cons trivial (j_tl (j_tl hs))))) (fun m2 _ => by simp only [q_step])
  · cases h
theorem j_s24 {A : Nat → Bool} {E W : Nat → Nat → Bool} {T : j_T} {J : List Nat} {m : z_M} {pc a b : Nat} {z : Int} {t : List Nat} {ls st : List q_V} {x : q_C} (hH : j_H A E W T) (hi : j_ok A E W T J (24, a, b, z, t)) (hl : j_all A ls) (hs : j_all A st) (h : q_step (24, a, b, z, t) pc ls st (m, T) = some x) : j_C A E W T m (q_step (24, a, b, z, t) pc ls st) x := by
  obtain ⟨h9, h1001, hA, hA2, hR, hWE⟩ := hH
  simp only [q_step] at h
  split at h
  · split at h
    · rename_i c
      cases h
      exact j_pure hl (j_cons trivial (j_tl hs)) (fun m2 e => by simp only [q_step]; rw [if_pos c, e _ _ (hi.1 rfl _ (j_hd hs) c.2)])
    · cases h
  · cases h
theorem j_s25 {A : Nat → Bool} {E W : Nat → Nat → Bool} {T : j_T} {J : List Nat} {m : z_M} {pc a b : Nat} {z : Int} {t : List Nat} {ls st : List q_V} {x : q_C} (hH : j_H A E W T) (hi : j_ok A E W T J (25, a, b, z, t)) (hl : j_all A ls) (hs : j_all A st) (h : q_step (25, a, b, z, t) pc ls st (m, T) = some x) : j_C A E W T m (q_step (25, a, b, z, t) pc ls st) x := by
  obtain ⟨h9, h1001, hA, hA2, hR, hWE⟩ := hH
  simp only [q_step] at h
  split at h
  · split at h
    · rename_i c
      cases h
      exact j_pure hl (j_cons (hi.2.1 rfl _ (j_hd hs) c.2) (j_tl hs)) (fun m2 e => by simp only [q_step]; rw [if_pos c])
    · cases h
  · cases h
theorem j_s26 {A : Nat → Bool} {E W : Nat → Nat → Bool} {T : j_T} {J : List Nat} {m : z_M} {pc a b : Nat} {z : Int} {t : List Nat} {ls st : List q_V} {x : q_C} (hH : j_H A E W T) (hi : j_ok A E W T J (26, a, b, z, t)) (hl : j_all A ls) (hs : j_all A st) (h : q_step (26, a, b, z, t) pc ls st (m, T) = some x) : j_C A E W T m (q_step (26, a, b, z, t) pc ls st) x := by
  obtain ⟨h9, h1001, hA, hA2, hR, hWE⟩ := hH
  simp only [q_step] at h
  split at h
  · split at h
    · rename_i c
      cases h
      exact j_wr (hi.2.2.1 rfl _ (j_hd (j_tl hs)) c.2.1) hl (j_tl (j_tl hs)) (fun m2 e => by simp only [q_step]; rw [if_pos c])
    · cases h
  · cases h
theorem j_s28 {A : Nat → Bool} {E W : Nat → Nat → Bool} {T : j_T} {J : List Nat} {m : z_M} {pc a b : Nat} {z : Int} {t : List Nat} {ls st : List q_V} {x : q_C} (hH : j_H A E W T) (hi : j_ok A E W T J (28, a, b, z, t)) (hl : j_all A ls) (hs : j_all A st) (h : q_step (28, a, b, z, t) pc ls st (m, T) = some x) : j_C A E W T m (q_step (28, a, b, z, t) pc ls st) x := by
  obtain ⟨h9, h1001, hA, hA2, hR, hWE⟩ := hH
  simp only [q_step] at h
  split at h
  · rename_i i o r
    split at h
    · rename_i k n e
      split at h
      · rename_i c
        cases h
        have hE : E o i.toNat = true := by
          by_cases h1000 : o < 1000
          · have e2 := e
            unfold q_shp at e2
            rw [if_pos h1000] at e2
            exact (hA o k n (j_hd (j_tl hs)) e2 (by rw [c.1]; exact hi.2.2.2.1 rfl) _).1
          · exact hA2 o (j_hd (j_tl hs)) (by omega) _
        exact j_pure hl (j_cons trivial (j_tl (j_tl hs))) (fun m2 e' => by
          have es : q_shp (m2, T) o = some (k, n) := e
          simp only [q_step, es]
          rw [if_pos c, e' _ _ hE])
      · cases h
    · cases h
  · cases h
theorem j_s29 {A : Nat → Bool} {E W : Nat → Nat → Bool} {T : j_T} {J : List Nat} {m : z_M} {pc a b : Nat} {z : Int} {t : List Nat} {ls st : List q_V} {x : q_C} (hH : j_H A E W T) (hi : j_ok A E W T J (29, a, b, z, t)) (hl : j_all A ls) (hs : j_all A st) (h : q_step (29, a, b, z, t) pc ls st (m, T) = some x) : j_C A E W T m (q_step (29, a, b, z, t) pc ls st) x := by
  obtain ⟨h9, h1001, hA, hA2, hR, hWE⟩ := hH
  simp only [q_step] at h
  split at h
  · rename_i v i o r
    split at h
    · rename_i k n e
      split at h
      · rename_i c
        cases h
        refine j_wr (hA o k n (j_hd (j_tl (j_tl hs))) e (by rw [c.2.1]; exact hi.2.2.2.2.1 rfl) _).2 hl (j_tl (j_tl (j_tl hs))) (fun m2 e' => ?_)
        have es : (m2, T).2.2.1[o]? = some (k, n) := e
        simp only [q_step, es]
        rw [if_pos c]
      · cases h
    · cases h
  · cases h
theorem j_s30 {A : Nat → Bool} {E W : Nat → Nat → Bool} {T : j_T} {J : List Nat} {m : z_M} {pc a b : Nat} {z : Int} {t : List Nat} {ls st : List q_V} {x : q_C} (hH : j_H A E W T) (hi : j_ok A E W T J (30, a, b, z, t)) (hl : j_all A ls) (hs : j_all A st) (h : q_step (30, a, b, z, t) pc ls st (m, T) = some x) : j_C A E W T m (q_step (30, a, b, z, t) pc ls st) x := by
  obtain ⟨h9, h1001, hA, hA2, hR, hWE⟩ := hH
  simp only [q_step] at h
  split at h
  · rename_i i o r
    split at h
    · rename_i k n e
      split at h
      · rename_i c
        cases h
        have hE := (hA o k n (j_hd (j_tl hs)) e (by omega) i.toNat).1
        exact j_pure hl (j_cons trivial (j_tl (j_tl hs))) (fun m2 e' => by
          have es : (m2, T).2.2.1[o]? = some (k, n) := e
          simp only [q_step, es]
          rw [if_pos c, e' _ _ hE])
      · cases h
    · cases h
  · cases h
theorem j_s31 {A : Nat → Bool} {E W : Nat → Nat → Bool} {T : j_T} {J : List Nat} {m : z_M} {pc a b : Nat} {z : Int} {t : List Nat} {ls st : List q_V} {x : q_C} (hH : j_H A E W T) (hi : j_ok A E W T J (31, a, b, z, t)) (hl : j_all A ls) (hs : j_all A st) (h : q_step (31, a, b, z, t) pc ls st (m, T) = some x) : j_C A E W T m (q_step (31, a, b, z, t) pc ls st) x := by
  obtain ⟨h9, h1001, hA, hA2, hR, hWE⟩ := hH
  simp only [q_step] at h
  split at h
  · rename_i v i o r
    split at h
    · rename_i k n e
      split at h
      · rename_i c
        cases h
        refine j_wr (hA o k n (j_hd (j_tl (j_tl hs))) e (by omega) _).2 hl (j_tl (j_tl (j_tl hs))) (fun m2 e' => ?_)
        have es : (m2, T).2.2.1[o]? = some (k, n) := e
        simp only [q_step, es]
        rw [if_pos c]
      · cases h
    · cases h
  · cases h
theorem j_s32 {A : Nat → Bool} {E W : Nat → Nat → Bool} {T : j_T} {J : List Nat} {m : z_M} {pc a b : Nat} {z : Int} {t : List Nat} {ls st : List q_V} {x : q_C} (hH : j_H A E W T) (hi : j_ok A E W T J (32, a, b, z, t)) (hl : j_all A ls) (hs : j_all A st) (h : q_step (32, a, b, z, t) pc ls st (m, T) = some x) : j_C A E W T m (q_step (32, a, b, z, t) pc ls st) x := by
  obtain ⟨h9, h1001, hA, hA2, hR, hWE⟩ := hH
  simp only [q_step] at h
  split at h
  · rename_i i o r
    split at h
    · rename_i k n e
      split at h
      · rename_i c
        cases h
        exact j_pure hl (j_cons (hR o k n (j_hd (j_tl hs)) e (by omega) i.toNat) (j_tl (j_tl hs))) (fun m2 e' => by
          have es : (m2, T).2.2.1[o]? = some (k, n) := e
          simp only [q_step, es]
          rw [if_pos c])
      · cases h
    · cases h
  · cases h
theorem j_s33 {A : Nat → Bool} {E W : Nat → Nat → Bool} {T : j_T} {J : List Nat} {m : z_M} {pc a b : Nat} {z : Int} {t : List Nat} {ls st : List q_V} {x : q_C} (hH : j_H A E W T) (hi : j_ok A E W T J (33, a, b, z, t)) (hl : j_all A ls) (hs : j_all A st) (h : q_step (33, a, b, z, t) pc ls st (m, T) = some x) : j_C A E W T m (q_step (33, a, b, z, t) pc ls st) x := by
  obtain ⟨h9, h1001, hA, hA2, hR, hWE⟩ := hH
  simp only [q_step] at h
  split at h
  · rename_i o r
    split at h
    · rename_i k n e
      split at h
      · rename_i c
        cases h
        exact j_pure hl (j_cons trivial (j_tl hs)) (fun m2 e' => by
          have es : q_shp (m2, T) o = some (k, n) := e
          simp only [q_step, es]
          rw [if_pos c])
      · cases h
    · cases h
  · cases h
theorem j_s34 {A : Nat → Bool} {E W : Nat → Nat → Bool} {T : j_T} {J : List Nat} {m : z_M} {pc a b : Nat} {z : Int} {t : List Nat} {ls st : List q_V} {x : q_C} (hH : j_H A E W T) (hi : j_ok A E W T J (34, a, b, z, t)) (hl : j_all A ls) (hs : j_all A st) (h : q_step (34, a, b, z, t) pc ls st (m, T) = some x) : j_C A E W T m (q_step (34, a, b, z, t) pc ls st) x := by
  obtain ⟨h9, h1001, hA, hA2, hR, hWE⟩ := hH
  simp only [q_step] at h
  cases h
  refine j_pure hl (j_cons ?_ hs) (fun m2 _ => rfl)
  by_cases ha : a = 0
  · rw [if_pos ha]; trivial
  · rw [if_neg ha]; exact hi.2.2.2.2.2.1 rfl ha
theorem j_s40 {A : Nat → Bool} {E W : Nat → Nat → Bool} {T : j_T} {J : List Nat} {m : z_M} {pc a b : Nat} {z : Int} {t : List Nat} {ls st : List q_V} {x : q_C} (hH : j_H A E W T) (hi : j_ok A E W T J (40, a, b, z, t)) (hl : j_all A ls) (hs : j_all A st) (h : q_step (40, a, b, z, t) pc ls st (m, T) = some x) : j_C A E W T m (q_step (40, a, b, z, t) pc ls st) x := by
  obtain ⟨h9, h1001, hA, hA2, hR, hWE⟩ := hH
  simp only [q_step] at h
  split at h
  · split at h
    · rename_i c
      cases h
      exact j_pure hl (j_tl hs) (fun m2 _ => by simp only [q_step]; rw [if_pos c])
    · cases h
  · cases h
theorem j_s41 {A : Nat → Bool} {E W : Nat → Nat → Bool} {T : j_T} {J : List Nat} {m : z_M} {pc a b : Nat} {z : Int} {t : List Nat} {ls st : List q_V} {x : q_C} (hH : j_H A E W T) (hi : j_ok A E W T J (41, a, b, z, t)) (hl : j_all A ls) (hs : j_all A st) (h : q_step (41, a, b, z, t) pc ls st (m, T) = some x) : j_C A E W T m (q_step (41, a, b, z, t) pc ls st) x := by
  obtain ⟨h9, h1001, hA, hA2, hR, hWE⟩ := hH
  simp only [q_step] at h
  split at h
  · rename_i n j q i p r
    split at h
    · rename_i k0 n0 k1 n1 e0 e1
      split at h
      · rename_i c
        cases h
        have hp := fun y => (hA p k0 n0 (j_hd (j_tl (j_tl (j_tl (j_tl hs))))) e0 c.2.2.2.1 y).1
        have hq := fun y => (hA q k1 n1 (j_hd (j_tl (j_tl hs))) e1 (by have := c.2.2.2.1; have := c.2.2.2.2.1; omega) y).2
        refine ⟨_, rfl, hl, j_tl (j_tl (j_tl (j_tl (j_tl hs)))), fun a' j' hw => q_cp_n' (fun hh => hw (by rw [hh.1]; exact hq _)), fun m2 e' => ⟨q_cpy m2 p i.toNat q j.toNat n.toNat, ?_, fun a' j' hE => ?_, fun a' j' hw => q_cp_n' (fun hh => hw (by rw [hh.1]; exact hq _))⟩⟩
        · have es0 : (m2, T).2.2.1[p]? = some (k0, n0) := e0
          have es1 : (m2, T).2.2.1[q]? = some (k1, n1) := e1
          simp only [q_step, es0, es1]
          have ep : ∀ y, m2 p y = m p y := fun y => e' _ _ (hp y)
          simp only [ep]
          rw [if_pos c]
        · unfold q_cpy
          split
          · exact e' _ _ (hp _)
          · exact e' _ _ hE
      · cases h
    · cases h
  · cases h
theorem j_step {A : Nat → Bool} {E W : Nat → Nat → Bool} {T : j_T} {J : List Nat} {m : z_M} {pc : Nat} {i : q_I} {ls st : List q_V} {x : q_C} (hH : j_H A E W T) (hi : j_ok A E W T J i) (hl : j_all A ls) (hs : j_all A st) (h : q_step i pc ls st (m, T) = some x) : j_C A E W T m (q_step i pc ls st) x := by
  obtain ⟨op, a, b, z, t⟩ := i
  match op, hi, h with
  | 0, hi, h => exact j_s0 hH hi hl hs h
  | 1, hi, h => exact j_s1 hH hi hl hs h
  | 2, hi, h => exact j_s2 hH hi hl hs h
  | 3, hi, h => exact j_s3 hH hi hl hs h
  | 4, hi, h => exact j_s4 hH hi hl hs h
  | 5, hi, h => exact j_s5 hH hi hl hs h
  | 6, hi, h => exact j_s6 hH hi hl hs h
  | 7, hi, h => exact j_s7 hH hi hl hs h
  | 8, hi, h => exact j_s8 hH hi hl hs h
  | 9, hi, h => exact j_s9 hH hi hl hs h
  | 10, hi, h => exact j_s10 hH hi hl hs h
  | 11, hi, h => exact j_s11 hH hi hl hs h
  | 12, hi, h => exact j_s12 hH hi hl hs h
  | 13, hi, h => exact j_s13 hH hi hl hs h
  | 14, hi, h => exact j_s14 hH hi hl hs h
  | 15, hi, h => exact j_s15 hH hi hl hs h
  | 16, hi, h => exact j_s16 hH hi hl hs h
  | 17, hi, h => exact j_s17 hH hi hl hs h
  | 18, hi, h => exact j_s18 hH hi hl hs h
  | 19, hi, h => exact j_s19 hH hi hl hs h
  | 20, hi, h => exact j_s20 hH hi hl hs h
  | 21, hi, h => exact j_s21 hH hi hl hs h
  | 22, hi, h => exact j_s22 hH hi hl hs h
  | 23, hi, h => exact j_s23 hH hi hl hs h
  | 24, hi, h => exact j_s24 hH hi hl hs h
  | 25, hi, h => exact j_s25 hH hi hl hs h
  | 26, hi, h => exact j_s26 hH hi hl hs h
  | 27, hi, h => exact absurd rfl hi.2.2.2.2.2.2.2.1
  | 28, hi, h => exact j_s28 hH hi hl hs h
  | 29, hi, h => exact j_s29 hH hi hl hs h
  | 30, hi, h => exact j_s30 hH hi hl hs h
  | 31, hi, h => exact j_s31 hH hi hl hs h
  | 32, hi, h => exact j_s32 hH hi hl hs h
  | 33, hi, h => exact j_s33 hH hi hl hs h
  | 34, hi, h => exact j_s34 hH hi hl hs h
  | 35, hi, h => exact absurd rfl hi.2.2.2.2.2.2.2.2.1
  | 36, hi, h => exact absurd rfl hi.2.2.2.2.2.2.2.2.2.1
  | 37, hi, h => exact absurd rfl hi.2.2.2.2.2.2.2.2.2.2
  | 38, hi, h => exact j_s38 hH hi hl hs h
  | 39, hi, h => exact j_s39 hH hi hl hs h
  | 40, hi, h => exact j_s40 hH hi hl hs h
  | 41, hi, h => exact j_s41 hH hi hl hs h
  | n + 42, hi, h => simp [q_step] at h
/-- what a run gives -/
def j_R (A : Nat → Bool) (E W : Nat → Nat → Bool) (T : j_T) (m : z_M) (f : q_S → Option (q_V × q_S)) (r : q_V) (S' : q_S) : Prop := ∃ m', S' = (m', T) ∧ j_in A r ∧ (∀ a j, ¬ W a j = true → m' a j = m a j) ∧ ∀ m2 : z_M, (∀ a j, E a j = true → m2 a j = m a j) → ∃ m2', f (m2, T) = some (r, (m2', T)) ∧ (∀ a j, E a j = true → m2' a j = m' a j) ∧ ∀ a j, ¬ W a j = true → m2' a j = m2 a j
theorem j_call {i : q_I} {ls st : List q_V} {m m2 : z_M} {T : j_T} : q_call i ls st (m2, T) = q_call i ls st (m, T) := by
  obtain ⟨op, a, b, z, t⟩ := i
  unfold q_call
  cases t with
  | nil => rfl
  | cons c t =>
    cases (st.take a).reverse with
    | nil => rfl
    | cons v r =>
      rcases v with v | v | v <;> rfl
theorem j_call_all {A : Nat → Bool} {i : q_I} {ls st : List q_V} {S : q_S} {b : Nat} {as rs : List q_V} (hs : j_all A st) (h : q_call i ls st S = some (b, as, rs)) : b = i.2.2.1 ∧ j_all A as ∧ j_all A rs := by
  obtain ⟨op, a, b', z, t⟩ := i
  unfold q_call at h
  dsimp only at h
  split at h
  · cases h
    exact ⟨rfl, fun v hv => hs v (List.mem_of_mem_take (List.mem_reverse.1 hv)), fun v hv => hs v (List.mem_of_mem_drop hv)⟩
  · cases h
theorem j_ret {A : Nat → Bool} {i : q_I} {st : List q_V} {v : q_V} (hs : j_all A st) (h : q_ret i st = some v) : j_in A v := by
  obtain ⟨op, a, b', z, t⟩ := i
  unfold q_ret at h
  dsimp only at h
  split at h
  · cases h; exact trivial
  · split at h
    · cases h; exact trivial
    · cases h
  · cases h; exact trivial
  · split at h
    · cases h; exact j_hd hs
    · cases h
  · split at h
    · cases h; exact trivial
    · cases h
  · cases h
theorem j_unf {n j pc : Nat} {ls st : List q_V} {S : q_S} {i : q_I} (hc : (q_P j).1[pc]? = some i) : q_run q_P (n + 1) j pc ls st S = (if i.1 = 50 then
        match q_call i ls st S with
        | none => none
        | some (b, as, r) => if (q_P b).2 < (q_args as).length then none else match q_run q_P n b 0 (q_pad (q_args as) (q_P b).2) [] S with
          | none => none
          | some (v, S') => q_run q_P n j (pc + 1) ls (q_push v r) S'
      else if i.1 = 51 then (q_ret i st).map (fun v => (v, S))
      else if i.1 = 52 then (match st with
        | [] => some (q_dead, S)
        | _ => none)
      else match q_step i pc ls st S with
        | none => none
        | some (pc', ls', st', S') => q_run q_P n j pc' ls' st' S') := by
  conv => lhs; unfold q_run
  rw [hc]
  rfl
theorem j_run {A : Nat → Bool} {E W : Nat → Nat → Bool} {T : j_T} {J : List Nat} (hH : j_H A E W T) (hJ : ∀ j, j ∈ J → ∀ i, i ∈ (q_P j).1 → j_ok A E W T J i) : ∀ (n j pc : Nat) (ls st : List q_V) (m : z_M) (r : q_V) (S' : q_S), j ∈ J → j_all A ls → j_all A st → q_run q_P n j pc ls st (m, T) = some (r, S') → j_R A E W T m (q_run q_P n j pc ls st) r S' := by
  have h9 := hH.1
  intro n
  induction n with
  | zero => intro j pc ls st m r S' _ _ _ h; simp [q_run] at h
  | succ n ih =>
    intro j pc ls st m r S' hj hl hs h
    unfold q_run at h
    cases hc : (q_P j).1[pc]? with
    | none => rw [hc] at h; cases h
    | some i =>
      rw [hc] at h
      dsimp only at h
      have hi := hJ j hj i (List.mem_of_getElem? hc)
      have ef : ∀ m2 : z_M, _ := fun m2 => j_unf (n := n) (ls := ls) (st := st) (S := (m2, T)) hc
      unfold j_R
      simp only [ef]
      by_cases h50 : i.1 = 50
      · rw [if_pos h50] at h
        simp only [if_pos h50]
        cases hq : q_call i ls st (m, T) with
        | none => rw [hq] at h; cases h
        | some y =>
          obtain ⟨b, as, rs⟩ := y
          rw [hq] at h
          dsimp only at h
          obtain ⟨eb, ha, hr⟩ := j_call_all hs hq
          have hb : b ∈ J := by
            rw [eb]
            obtain ⟨op, a, b', z, t⟩ := i
            exact hi.2.2.2.2.2.2.1 h50
          by_cases hlen : (q_P b).2 < (q_args as).length
          · rw [if_pos hlen] at h; cases h
          · rw [if_neg hlen] at h
            cases hr1 : q_run q_P n b 0 (q_pad (q_args as) (q_P b).2) [] (m, T) with
            | none => rw [hr1] at h; cases h
            | some y =>
              obtain ⟨v, S1⟩ := y
              rw [hr1] at h
              dsimp only at h
              obtain ⟨m1, e1, v1, f1, g1⟩ := ih b 0 _ [] m v S1 hb (j_pad h9 (j_args h9 ha)) j_nil hr1
              subst e1
              obtain ⟨m', e2, v2, f2, g2⟩ := ih j (pc + 1) ls (q_push v rs) m1 r S' hj hl (j_push v1 hr) h
              refine ⟨m', e2, v2, fun a j hw => (f2 a j hw).trans (f1 a j hw), fun m2 ag => ?_⟩
              obtain ⟨m21, a1, a2, a3⟩ := g1 m2 ag
              obtain ⟨m22, b1, b2, b3⟩ := g2 m21 a2
              refine ⟨m22, ?_, b2, fun a j hw => (b3 a j hw).trans (a3 a j hw)⟩
              rw [j_call (m := m), hq]
              dsimp only
              rw [if_neg hlen, a1]
              exact b1
      · rw [if_neg h50] at h
        simp only [if_neg h50]
        by_cases h51 : i.1 = 51
        · rw [if_pos h51] at h
          simp only [if_pos h51]
          cases hq : q_ret i st with
          | none => rw [hq] at h; cases h
          | some v =>
            rw [hq] at h
            cases h
            exact ⟨m, rfl, j_ret hs hq, fun _ _ _ => rfl, fun m2 ag => ⟨m2, rfl, ag, fun _ _ _ => rfl⟩⟩
        · rw [if_neg h51] at h
          simp only [if_neg h51]
          by_cases h52 : i.1 = 52
          · rw [if_pos h52] at h
            simp only [if_pos h52]
            cases st with
            | nil => cases h; exact ⟨m, rfl, h9, fun _ _ _ => rfl, fun m2 ag => ⟨m2, rfl, ag, fun _ _ _ => rfl⟩⟩
            | cons _ _ => cases h
          · rw [if_neg h52] at h
            simp only [if_neg h52]
            cases hq : q_step i pc ls st (m, T) with
            | none => rw [hq] at h; cases h
            | some x =>
              obtain ⟨pc', ls', st', S1⟩ := x
              rw [hq] at h
              dsimp only at h
              obtain ⟨m1, e1, l1, s1, f1, g1⟩ := j_step hH hi hl hs hq
              dsimp only at e1 l1 s1
              subst e1
              obtain ⟨m', e2, v2, f2, g2⟩ := ih j pc' ls' st' m1 r S' hj l1 s1 h
              refine ⟨m', e2, v2, fun a j hw => (f2 a j hw).trans (f1 a j hw), fun m2 ag => ?_⟩
              obtain ⟨m21, a1, a2, a3⟩ := g1 m2 ag
              obtain ⟨m22, b1, b2, b3⟩ := g2 m21 a2
              refine ⟨m22, ?_, b2, fun a j hw => (b3 a j hw).trans (a3 a j hw)⟩
              rw [a1]
              exact b1
def j_glue (W : Nat → Nat → Bool) (m' m2 : z_M) : z_M := fun a j => if W a j = true then m' a j else m2 a j
/-- a call, and the same call from a state that agrees -/
theorem j_zC {A : Nat → Bool} {E W : Nat → Nat → Bool} {T : j_T} {J : List Nat} (hH : j_H A E W T) (hJ : ∀ j, j ∈ J → ∀ i, i ∈ (q_P j).1 → j_ok A E W T J i) {j : Nat} {as : List q_V} {m : z_M} {Q : q_V → q_S → Prop} (hj : j ∈ J) (ha : j_all A as) (h : z_C j as (m, T) Q) : ∃ r m', Q r (m', T) ∧ (∀ a j, ¬ W a j = true → m' a j = m a j) ∧ ∀ (m2 : z_M) (Q' : q_V → q_S → Prop), (∀ a j, E a j = true → m2 a j = m a j) → Q' r (j_glue W m' m2, T) → z_C j as (m2, T) Q' := by
  obtain ⟨n, r, S', h1, h2⟩ := h
  obtain ⟨m', e, -, f, g⟩ := j_run hH hJ n j 0 _ [] m r S' hj (j_pad hH.1 (j_args hH.1 ha)) j_nil h1
  subst e
  refine ⟨r, m', h2, f, fun m2 Q' ag hq => ?_⟩
  obtain ⟨m2', b1, b2, b3⟩ := g m2 ag
  have e : m2' = j_glue W m' m2 := by
    funext a j
    unfold j_glue
    by_cases hw : W a j = true
    · rw [if_pos hw]; exact b2 a j (hH.2.2.2.2.2 a j hw)
    · rw [if_neg hw]; exact b3 a j hw
  rw [e] at b1
  exact ⟨n, r, _, b1, hq⟩
