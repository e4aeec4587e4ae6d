/-! WHAT IS TO BE SHOWN, in plain words: compares as facts, rows of rows by their base, divisions by their sign; segments of methods are printed against it (wip/whole/seg.py) -/
def z_r (c : Nat) (x y : Int) : Prop := match c with
  | 0 => x = y
  | 1 => ¬ x = y
  | 2 => x < y
  | 3 => y ≤ x
  | 4 => y < x
  | _ => x ≤ y
def z_n (c : Nat) (x y : Int) : Prop := match c with
  | 0 => ¬ x = y
  | 1 => x = y
  | 2 => y ≤ x
  | 3 => x < y
  | 4 => x ≤ y
  | _ => y < x
def z_ok2 (x y : Int) : Prop := -2147483648 ≤ x ∧ x < 2147483648 ∧ -2147483648 ≤ y ∧ y < 2147483648
def z_okl2 (x y : Int) : Prop := -9223372036854775808 ≤ x ∧ x < 9223372036854775808 ∧ -9223372036854775808 ≤ y ∧ y < 9223372036854775808
/-- a quotient's numbers: none below 0; the first may be -/
def z_dv (x y : Int) : Prop := 0 ≤ x ∧ x < 2147483648 ∧ 0 < y ∧ y < 2147483648
def z_dw (x y : Int) : Prop := -2147483648 ≤ x ∧ x < 2147483648 ∧ 0 < y ∧ y < 2147483648
def z_dl (x y : Int) : Prop := 0 ≤ x ∧ x < 9223372036854775808 ∧ 0 < y ∧ y < 9223372036854775808
def z_dm (x y : Int) : Prop := -9223372036854775808 ≤ x ∧ x < 9223372036854775808 ∧ 0 < y ∧ y < 9223372036854775808
def z_bs (o : Nat) : Nat := if o = 6 then 7 else if o = 20 then 21 else if o = 30 then 31 else if o = 76 then 77 else if o = 101 then 102 else 116
/-- row i of a row of n rows stands at its base's place and i on -/
def z_rw (r : Nat → Nat → Nat) (o : Nat) (i : Int) (n : Nat) : Prop := 0 ≤ i ∧ i < n ∧ r o i.toNat = z_bs o + i.toNat ∧ z_bs o + i.toNat < 1000
def z_sp (sh : List (Nat × Nat)) (o b n : Nat) : Prop := o < 1000 ∧ sh[o]? = some (b, n)
def y_sy : List (Nat × Nat) → Nat → Option Nat
  | [], _ => none
  | (a, n) :: r, pc => if pc = a then some n else y_sy r pc
/-- no place that is none -/
def q_nd : List q_V → Prop
  | [] => True
  | .inr (.inr k) :: r => k < 1000 ∧ q_nd r
  | _ :: r => q_nd r
theorem q_nd_ok : ∀ {l : List q_V}, q_nd l → ∀ v ∈ l, ¬ v = q_dead
  | [], _, _, hv => by simp at hv
  | .inl x :: r, h, v, hv => by
    rcases List.mem_cons.mp hv with rfl | hv
    · exact fun e => by cases e
    · exact q_nd_ok (l := r) h v hv
  | .inr (.inl x) :: r, h, v, hv => by
    rcases List.mem_cons.mp hv with rfl | hv
    · exact fun e => by cases e
    · exact q_nd_ok (l := r) h v hv
  | .inr (.inr k) :: r, h, v, hv => by
    have h1 : k < 1000 := h.1
    rcases List.mem_cons.mp hv with rfl | hv
    · exact fun e => by
        have e : k = 1009 := by injection e with e; injection e
        omega
    · exact q_nd_ok (l := r) h.2 v hv
def y_wp (cd : List q_I) (j : Nat) (cs ng : List Nat) (sy : List (Nat × Nat)) : Nat → Nat → List q_V → List q_V → q_S → (q_V → q_S → Prop) → Prop
  | 0, pc, ls, st, S, Q => z_T j pc ls st S Q
  | n + 1, pc, ls, st, S, Q => match cd[pc]? with
    | none => False
    | some (op, a, b, z, t) => match op with
      | 2 => if ng.contains pc = true then (match ls[a]? with
          | some (.inr (.inr k)) => k < 1000 ∧ z_go cs j Q (y_wp cd j cs ng sy n) (pc + 1) ls (.inr (.inr k) :: st) S
          | _ => False) else match q_step (2, a, b, z, t) pc ls st S with
        | some (pc', ls', st', S') => z_go cs j Q (y_wp cd j cs ng sy n) pc' ls' st' S'
        | none => False
      | 5 => if ng.contains pc = true then (match st with
          | .inr (.inr k) :: r => if a < ls.length then k < 1000 ∧ z_go cs j Q (y_wp cd j cs ng sy n) (pc + 1) (q_set1 ls a (.inr (.inr k))) r S else False
          | _ => False) else match q_step (5, a, b, z, t) pc ls st S with
        | some (pc', ls', st', S') => z_go cs j Q (y_wp cd j cs ng sy n) pc' ls' st' S'
        | none => False
      | 50 => if ng.contains pc = true then (if a ≤ st.length ∧ ((st.drop a).map q_cat).sum ≤ 8 ∧ q_rcv t ((st.take a).reverse) S = true then q_nd (st.take a) ∧ (if (q_P b).2 < (q_args (st.take a).reverse).length then False else z_C b (st.take a).reverse S (fun v S' => z_go cs j Q (y_wp cd j cs ng sy n) (pc + 1) ls (q_push v (st.drop a)) S')) else False) else match q_call (50, a, b, z, t) ls st S with
        | none => False
        | some (b', as, rs) => if (q_P b').2 < (q_args as).length then False else z_C b' as S (fun v S' => z_go cs j Q (y_wp cd j cs ng sy n) (pc + 1) ls (q_push v rs) S')
      | 51 => if ng.contains pc = true then (match a, st with
          | 1, [.inl x] => (x = 0 ∨ x = 1) ∧ Q (.inl x) S
          | 3, [.inr (.inr k)] => k < 1000 ∧ Q (.inr (.inr k)) S
          | 4, [.inl x] => (0 ≤ x ∧ x < 256) ∧ Q (.inl x) S
          | _, _ => False) else match q_ret (51, a, b, z, t) st with
        | some v => Q v S
        | none => False
      | 52 => match st with
        | [] => Q q_dead S
        | _ => False
      | 8 => match st with
        | .inl y :: .inl x :: r => match a with
          | 9 => if ng.contains pc = true then z_dw x y ∧ z_go cs j Q (y_wp cd j cs ng sy n) (pc + 1) ls (.inl (x.tdiv y) :: r) S else z_dv x y ∧ z_go cs j Q (y_wp cd j cs ng sy n) (pc + 1) ls (.inl (x / y) :: r) S
          | 10 => if ng.contains pc = true then z_dw x y ∧ z_go cs j Q (y_wp cd j cs ng sy n) (pc + 1) ls (.inl (x.tmod y) :: r) S else z_dv x y ∧ z_go cs j Q (y_wp cd j cs ng sy n) (pc + 1) ls (.inl (x % y) :: r) S
          | k + 11 => False
          | _ => z_go cs j Q (y_wp cd j cs ng sy n) (pc + 1) ls (.inl (q_bin a x y) :: r) S
        | _ => False
      | 10 => match st with
        | .inr (.inl y) :: .inr (.inl x) :: r => match a with
          | 9 => if ng.contains pc = true then z_dm x y ∧ z_go cs j Q (y_wp cd j cs ng sy n) (pc + 1) ls (.inr (.inl (x.tdiv y)) :: r) S else z_dl x y ∧ z_go cs j Q (y_wp cd j cs ng sy n) (pc + 1) ls (.inr (.inl (x / y)) :: r) S
          | 10 => if ng.contains pc = true then z_dm x y ∧ z_go cs j Q (y_wp cd j cs ng sy n) (pc + 1) ls (.inr (.inl (x.tmod y)) :: r) S else z_dl x y ∧ z_go cs j Q (y_wp cd j cs ng sy n) (pc + 1) ls (.inr (.inl (x % y)) :: r) S
          | k + 11 => False
          | _ => z_go cs j Q (y_wp cd j cs ng sy n) (pc + 1) ls (.inr (.inl (q_lbin a x y)) :: r) S
        | _ => False
      | 12 => match st with
        | .inr (.inl y) :: .inr (.inl x) :: r => z_okl2 x y ∧ z_go cs j Q (y_wp cd j cs ng sy n) (pc + 1) ls (.inl (if x < y then -1 else if x = y then 0 else 1) :: r) S
        | _ => False
      | 13 => match st with
        | .inl x :: r => z_ok x ∧ z_go cs j Q (y_wp cd j cs ng sy n) (pc + 1) ls (.inr (.inl x) :: r) S
        | _ => False
      | 17 => match st with
        | .inl x :: r => z_ok x ∧ (z_r a x 0 → z_go cs j Q (y_wp cd j cs ng sy n) b ls r S) ∧ (z_n a x 0 → z_go cs j Q (y_wp cd j cs ng sy n) (pc + 1) ls r S)
        | _ => False
      | 18 => match st with
        | .inl y :: .inl x :: r => z_ok2 x y ∧ (z_r a x y → z_go cs j Q (y_wp cd j cs ng sy n) b ls r S) ∧ (z_n a x y → z_go cs j Q (y_wp cd j cs ng sy n) (pc + 1) ls r S)
        | _ => False
      | 26 => match st with
        | .inl x :: .inr (.inr o) :: r => if o < 1000 ∧ (S.2.2.1[o]?).map Prod.fst = some (b + 5) then (match z with
          | .ofNat 0 => z_go cs j Q (y_wp cd j cs ng sy n) (pc + 1) ls r (q_upd S.1 o a x, S.2)
          | _ => ((z = 1 → x = 0 ∨ x = 1) ∧ (z = 2 → -128 ≤ x ∧ x < 128)) ∧ z_go cs j Q (y_wp cd j cs ng sy n) (pc + 1) ls r (q_upd S.1 o a x, S.2)) else False
        | _ => False
      | 28 => match st with
        | .inl i :: .inr (.inr o) :: r => match y_sy sy pc with
          | some m => z_sp S.2.2.1 o b m ∧ z_in i m ∧ z_go cs j Q (y_wp cd j cs ng sy n) (pc + 1) ls (.inl (S.1 o i.toNat) :: r) S
          | none => match q_shp S o with
            | some (k, m) => if k = b then z_in i m ∧ z_go cs j Q (y_wp cd j cs ng sy n) (pc + 1) ls (.inl (S.1 o i.toNat) :: r) S else False
            | none => False
        | _ => False
      | 29 => match st with
        | .inl x :: .inl i :: .inr (.inr o) :: r => match y_sy sy pc with
          | some m => z_sp S.2.2.1 o b m ∧ z_in i m ∧ z_go cs j Q (y_wp cd j cs ng sy n) (pc + 1) ls r (q_upd S.1 o i.toNat (if b = 2 then q_i2b x else x), S.2)
          | none => match S.2.2.1[o]? with
            | some (k, m) => if o < 1000 ∧ k = b then z_in i m ∧ z_go cs j Q (y_wp cd j cs ng sy n) (pc + 1) ls r (q_upd S.1 o i.toNat (if b = 2 then q_i2b x else x), S.2) else False
            | none => False
        | _ => False
      | 30 => match st with
        | .inl i :: .inr (.inr o) :: r => match y_sy sy pc with
          | some m => z_sp S.2.2.1 o 1 m ∧ z_in i m ∧ z_go cs j Q (y_wp cd j cs ng sy n) (pc + 1) ls (.inr (.inl (S.1 o i.toNat)) :: r) S
          | none => match S.2.2.1[o]? with
            | some (k, m) => if o < 1000 ∧ k = 1 then z_in i m ∧ z_go cs j Q (y_wp cd j cs ng sy n) (pc + 1) ls (.inr (.inl (S.1 o i.toNat)) :: r) S else False
            | none => False
        | _ => False
      | 31 => match st with
        | .inr (.inl x) :: .inl i :: .inr (.inr o) :: r => match y_sy sy pc with
          | some m => z_sp S.2.2.1 o 1 m ∧ z_in i m ∧ z_go cs j Q (y_wp cd j cs ng sy n) (pc + 1) ls r (q_upd S.1 o i.toNat x, S.2)
          | none => match S.2.2.1[o]? with
            | some (k, m) => if o < 1000 ∧ k = 1 then z_in i m ∧ z_go cs j Q (y_wp cd j cs ng sy n) (pc + 1) ls r (q_upd S.1 o i.toNat x, S.2) else False
            | none => False
        | _ => False
      | 32 => match st with
        | .inl i :: .inr (.inr o) :: r => match S.2.2.1[o]? with
          | some (k, m) => if o < 1000 ∧ k = b ∧ (b = 3 ∨ b = 4) then z_rw S.2.1 o i m ∧ z_go cs j Q (y_wp cd j cs ng sy n) (pc + 1) ls (.inr (.inr (z_bs o + i.toNat)) :: r) S else False
          | none => False
        | _ => False
      | 33 => match st with
        | .inr (.inr o) :: r => match y_sy sy pc with
          | some m => match y_sy sy (pc + 20000) with
            | some k => z_sp S.2.2.1 o k m ∧ k < 5 ∧ z_go cs j Q (y_wp cd j cs ng sy n) (pc + 1) ls (.inl m :: r) S
            | none => False
          | none => match q_step (33, a, b, z, t) pc ls st S with
            | some (pc', ls', st', S') => z_go cs j Q (y_wp cd j cs ng sy n) pc' ls' st' S'
            | none => False
        | _ => False
      | 38 => match st with
        | .inl x :: r => z_ok x ∧ z_swp (fun pc' => z_go cs j Q (y_wp cd j cs ng sy n) pc' ls r S) z x t b
        | _ => False
      | 39 => match st with
        | .inl x :: r => z_ok x ∧ z_lkp (fun pc' => z_go cs j Q (y_wp cd j cs ng sy n) pc' ls r S) x t b
        | _ => False
      | 41 => match st with
        | .inl w :: .inl y :: .inr (.inr q) :: .inl i :: .inr (.inr p) :: r => match y_sy sy pc with
          | some n0 => match y_sy sy (pc + 10000), y_sy sy (pc + 20000) with
            | some n1, some k0 => if (r.map q_cat).sum ≤ 8 ∧ k0 < 2 then (z_sp S.2.2.1 p k0 n0 ∧ z_sp S.2.2.1 q k0 n1) ∧ (0 ≤ w ∧ 0 ≤ i ∧ 0 ≤ y ∧ i + w ≤ n0 ∧ y + w ≤ n1) ∧ z_go cs j Q (y_wp cd j cs ng sy n) (pc + 1) ls r (q_cpy S.1 p i.toNat q y.toNat w.toNat, S.2) else False
            | _, _ => False
          | none => match S.2.2.1[p]?, S.2.2.1[q]? with
            | some (k0, n0), some (k1, n1) => if p < 1000 ∧ q < 1000 ∧ (r.map q_cat).sum ≤ 8 ∧ k0 < 2 ∧ k0 = k1 then (0 ≤ w ∧ 0 ≤ i ∧ 0 ≤ y ∧ i + w ≤ n0 ∧ y + w ≤ n1) ∧ z_go cs j Q (y_wp cd j cs ng sy n) (pc + 1) ls r (q_cpy S.1 p i.toNat q y.toNat w.toNat, S.2) else False
            | _, _ => False
        | _ => False
      | _ => match q_step (op, a, b, z, t) pc ls st S with
        | some (pc', ls', st', S') => if op = 99 then False else z_go cs j Q (y_wp cd j cs ng sy n) pc' ls' st' S'
        | none => False
theorem z_r_c {c : Nat} {x y : Int} (hx : z_ok x) (hy : z_ok y) (h : q_cond c (q_w x) (q_w y) = true) : z_r c x y := by
  rw [z_c hx hy] at h
  match c, h with
  | 0, h => have h : x = y := of_decide_eq_true h; exact h
  | 1, h => have h : ¬ x = y := of_decide_eq_true h; exact h
  | 2, h => have h : x < y := of_decide_eq_true h; exact h
  | 3, h => have h : ¬ x < y := of_decide_eq_true h; show y ≤ x; omega
  | 4, h => have h : y < x := of_decide_eq_true h; exact h
  | k + 5, h => have h : ¬ y < x := of_decide_eq_true h; show x ≤ y; omega
theorem z_n_c {c : Nat} {x y : Int} (hx : z_ok x) (hy : z_ok y) (h : ¬ q_cond c (q_w x) (q_w y) = true) : z_n c x y := by
  have h : q_cond c (q_w x) (q_w y) = false := by simpa using h
  rw [z_c hx hy] at h
  match c, h with
  | 0, h => have h : ¬ x = y := of_decide_eq_false h; exact h
  | 1, h => have h : ¬ ¬ x = y := of_decide_eq_false h; show x = y; omega
  | 2, h => have h : ¬ x < y := of_decide_eq_false h; show y ≤ x; omega
  | 3, h => have h : ¬ ¬ x < y := of_decide_eq_false h; show x < y; omega
  | 4, h => have h : ¬ y < x := of_decide_eq_false h; show x ≤ y; omega
  | k + 5, h => have h : ¬ ¬ y < x := of_decide_eq_false h; show y < x; omega
theorem z_w0 : q_w 0 = 0 := q_w_id (by decide) (by decide)
theorem q_tdiv_rngl {x y : Int} (hx1 : -9223372036854775808 ≤ x) (hx2 : x < 9223372036854775808) (hy : 0 < y) : -9223372036854775808 ≤ x.tdiv y ∧ x.tdiv y < 9223372036854775808 := by
  have h1 : (x.tdiv y).natAbs ≤ x.natAbs := by
    rw [Int.natAbs_tdiv]
    exact Nat.div_le_self _ _
  by_cases h : 0 ≤ x
  · have := Int.tdiv_nonneg h (Int.le_of_lt hy)
    omega
  · have h3 : x.tdiv y ≤ 0 := by
      have := Int.tdiv_nonneg (a := -x) (b := y) (by omega) (Int.le_of_lt hy)
      rw [Int.neg_tdiv] at this
      omega
    omega
theorem q_l_div {x y : Int} (hx1 : -9223372036854775808 ≤ x) (hx2 : x < 9223372036854775808) (hy1 : 0 < y) (hy2 : y < 9223372036854775808) : Int64.ofInt x / Int64.ofInt y = Int64.ofInt (x.tdiv y) := by
  apply Int64.toInt_inj.mp
  obtain ⟨h1, h2⟩ := q_tdiv_rngl hx1 hx2 hy1
  have e1 : (Int64.ofInt x).toInt = x := q_wl_id hx1 hx2
  have e2 : (Int64.ofInt y).toInt = y := q_wl_id (by omega) hy2
  have e3 : (Int64.ofInt (x.tdiv y)).toInt = x.tdiv y := q_wl_id h1 h2
  rw [Int64.toInt_div, e1, e2, e3]
  exact Int.bmod_eq_of_le (by omega) (by omega)
theorem q_lb_div {x y : Int} (h : z_dm x y) : q_lbin 9 x y = x.tdiv y := by
  obtain ⟨hx1, hx2, hy1, hy2⟩ := h
  show (Int64.ofInt x / Int64.ofInt y).toInt = _
  rw [q_l_div hx1 hx2 hy1 hy2]
  obtain ⟨h1, h2⟩ := q_tdiv_rngl hx1 hx2 hy1
  exact q_wl_id h1 h2
theorem q_lb_rem {x y : Int} (h : z_dm x y) : q_lbin 10 x y = x.tmod y := by
  obtain ⟨hx1, hx2, hy1, hy2⟩ := h
  show (Int64.ofInt x - Int64.ofInt x / Int64.ofInt y * Int64.ofInt y).toInt = _
  rw [q_l_div hx1 hx2 hy1 hy2, ← Int64.ofInt_mul, ← Int64.ofInt_sub]
  have e : x - x.tdiv y * y = x.tmod y := by
    have := Int.tmod_add_mul_tdiv x y
    rw [Int.mul_comm] at this
    omega
  rw [e]
  have h1 : (x.tmod y).natAbs < y.natAbs := by
    rw [Int.natAbs_tmod]
    exact Nat.mod_lt _ (by omega)
  exact q_wl_id (by omega) (by omega)
theorem z_dl_dm {x y : Int} (h : z_dl x y) : z_dm x y := by unfold z_dl at h; unfold z_dm; omega
theorem z_dv_dw {x y : Int} (h : z_dv x y) : z_dw x y := by unfold z_dv at h; unfold z_dw; omega
theorem q_b_div' {x y : Int} (h : z_dw x y) : q_bin 9 x y = x.tdiv y := q_b_div h.1 h.2.1 h.2.2.1 h.2.2.2
theorem q_b_rem' {x y : Int} (h : z_dw x y) : q_bin 10 x y = x.tmod y := q_b_rem h.1 h.2.1 h.2.2.1 h.2.2.2
theorem z_nz {y : Int} (h1 : 0 < y) (h2 : y < 2147483648) : ¬ q_w y = 0 := by rw [q_w_id (by omega) h2]; omega
theorem z_nzl {y : Int} (h1 : 0 < y) (h2 : y < 9223372036854775808) : ¬ q_wl y = 0 := by rw [q_wl_id (by omega) h2]; omega
theorem z_sp_shp {S : q_S} {o b n : Nat} (h : z_sp S.2.2.1 o b n) : q_shp S o = some (b, n) := by
  unfold q_shp
  rw [if_pos h.1]
  exact h.2
set_option maxHeartbeats 8000000 in
theorem y_wp_T {cd : List q_I} {j : Nat} {cs ng : List Nat} {sy : List (Nat × Nat)} (hcd : (q_P j).1 = cd) : ∀ (n pc : Nat) (ls st : List q_V) (S : q_S) (Q : q_V → q_S → Prop), y_wp cd j cs ng sy n pc ls st S Q → z_T j pc ls st S Q
  | 0, _, _, _, _, _, h => h
  | n + 1, pc, ls, st, S, Q, h => by
    have ih := fun pc ls st S => y_wp_T (cs := cs) (ng := ng) (sy := sy) hcd n pc ls st S Q
    have go : ∀ {pc : Nat} {ls st : List q_V} {S : q_S}, z_go cs j Q (y_wp cd j cs ng sy n) pc ls st S → z_T j pc ls st S Q := fun h => z_go_T ih h
    subst hcd
    unfold y_wp at h
    cases hi : (q_P j).1[pc]? with
    | none => rw [hi] at h; exact h.elim
    | some i =>
      obtain ⟨op, a, b, z, t⟩ := i
      rw [hi] at h
      have step : ¬ op = 50 → ¬ op = 51 → ¬ op = 52 → ∀ {pc' ls' st' S'}, q_step (op, a, b, z, t) pc ls st S = some (pc', ls', st', S') → z_T j pc' ls' st' S' Q → z_T j pc ls st S Q := fun h1 h2 h3 _ _ _ _ hs hT => z_T_step hi h1 h2 h3 hs hT
      dsimp only at h
      have okk : ∀ {k : Nat}, k < 1000 → q_ok1 k = true := fun hk => by unfold q_ok1; simp [hk]
      split at h
      · split at h
        · split at h
          · rename_i k hk
            refine step (by decide) (by decide) (by decide) ?_ (go h.2)
            simp only [q_step, hk]; rw [if_pos (okk h.1)]
          · exact h.elim
        · split at h
          · exact step (by decide) (by decide) (by decide) ‹_› (go h)
          · exact h.elim
      · split at h
        · split at h
          · split at h
            · rename_i hl
              refine step (by decide) (by decide) (by decide) ?_ (go h.2)
              simp only [q_step]; rw [if_pos ⟨hl, okk h.1⟩]
            · exact h.elim
          · exact h.elim
        · split at h
          · exact step (by decide) (by decide) (by decide) ‹_› (go h)
          · exact h.elim
      · split at h
        · split at h
          · rename_i hq
            obtain ⟨h1, h2⟩ := h
            split at h2
            · exact h2.elim
            · refine z_T_call hi rfl ?_ ‹_› (z_T.imp h2 (fun v S' g => go g))
              simp only [q_call]
              rw [if_pos ⟨hq.1, hq.2.1, hq.2.2, q_nd_ok h1⟩]
          · exact h.elim
        · split at h
          · exact h.elim
          · rename_i b' as rs hc
            split at h
            · exact h.elim
            · exact z_T_call hi rfl hc ‹_› (z_T.imp h (fun v S' g => go g))
      · split at h
        · split at h
          · refine z_T_ret hi rfl ?_ h.2
            simp only [q_ret]; rw [if_pos h.1]
          · refine z_T_ret hi rfl ?_ h.2
            simp only [q_ret]; rw [if_pos h.1]
          · refine z_T_ret hi rfl ?_ h.2
            simp only [q_ret]; rw [if_pos h.1]
          · exact h.elim
        · split at h
          · exact z_T_ret hi rfl ‹_› h
          · exact h.elim
      · split at h
        · exact z_T_retv hi rfl h
        · exact h.elim
      · split at h
        · rename_i y x r
          split at h
          · split at h
            · obtain ⟨h1, h2⟩ := h
              refine step (by decide) (by decide) (by decide) ?_ (go h2)
              simp only [q_step]
              rw [if_neg (fun e => z_nz h1.2.2.1 h1.2.2.2 e.2), q_b_div' h1]
            · obtain ⟨h1, h2⟩ := h
              refine step (by decide) (by decide) (by decide) ?_ (go h2)
              simp only [q_step]
              rw [if_neg (fun e => z_nz h1.2.2.1 h1.2.2.2 e.2), q_b_div' (z_dv_dw h1), Int.tdiv_eq_ediv_of_nonneg h1.1]
          · split at h
            · obtain ⟨h1, h2⟩ := h
              refine step (by decide) (by decide) (by decide) ?_ (go h2)
              simp only [q_step]
              rw [if_neg (fun e => z_nz h1.2.2.1 h1.2.2.2 e.2), q_b_rem' h1]
            · obtain ⟨h1, h2⟩ := h
              refine step (by decide) (by decide) (by decide) ?_ (go h2)
              simp only [q_step]
              rw [if_neg (fun e => z_nz h1.2.2.1 h1.2.2.2 e.2), q_b_rem' (z_dv_dw h1), Int.tmod_eq_emod_of_nonneg h1.1]
          · exact h.elim
          · refine step (by decide) (by decide) (by decide) ?_ (go h)
            simp only [q_step]
            rw [if_neg (fun e => by rcases e.1 with e | e <;> simp_all)]
        · exact h.elim
      · split at h
        · rename_i y x r
          split at h
          · split at h
            · obtain ⟨h1, h2⟩ := h
              refine step (by decide) (by decide) (by decide) ?_ (go h2)
              simp only [q_step]
              rw [if_neg (fun e => z_nzl h1.2.2.1 h1.2.2.2 e.2), q_lb_div h1]
            · obtain ⟨h1, h2⟩ := h
              refine step (by decide) (by decide) (by decide) ?_ (go h2)
              simp only [q_step]
              rw [if_neg (fun e => z_nzl h1.2.2.1 h1.2.2.2 e.2), q_lb_div (z_dl_dm h1), Int.tdiv_eq_ediv_of_nonneg h1.1]
          · split at h
            · obtain ⟨h1, h2⟩ := h
              refine step (by decide) (by decide) (by decide) ?_ (go h2)
              simp only [q_step]
              rw [if_neg (fun e => z_nzl h1.2.2.1 h1.2.2.2 e.2), q_lb_rem h1]
            · obtain ⟨h1, h2⟩ := h
              refine step (by decide) (by decide) (by decide) ?_ (go h2)
              simp only [q_step]
              rw [if_neg (fun e => z_nzl h1.2.2.1 h1.2.2.2 e.2), q_lb_rem (z_dl_dm h1), Int.tmod_eq_emod_of_nonneg h1.1]
          · exact h.elim
          · refine step (by decide) (by decide) (by decide) ?_ (go h)
            simp only [q_step]
            rw [if_neg (fun e => by rcases e.1 with e | e <;> simp_all)]
        · exact h.elim
      · split at h
        · rename_i y x r
          obtain ⟨h1, h2⟩ := h
          refine step (by decide) (by decide) (by decide) ?_ (go h2)
          simp only [q_step]
          rw [q_wl_id h1.1 h1.2.1, q_wl_id h1.2.2.1 h1.2.2.2]
        · exact h.elim
      · split at h
        · rename_i x r
          obtain ⟨h1, h2⟩ := h
          refine step (by decide) (by decide) (by decide) ?_ (go h2)
          simp only [q_step]
          rw [q_w_id h1.1 h1.2]
        · exact h.elim
      · split at h
        · rename_i x r
          obtain ⟨h1, h2, h3⟩ := h
          have h0 : z_ok 0 := ⟨by decide, by decide⟩
          by_cases hc : q_cond a (q_w x) 0 = true
          · exact step (by decide) (by decide) (by decide) (by simp only [q_step]; rw [if_pos hc]) (go (h2 (z_r_c h1 h0 (by rw [z_w0]; exact hc))))
          · exact step (by decide) (by decide) (by decide) (by simp only [q_step]; rw [if_neg hc]) (go (h3 (z_n_c h1 h0 (by rw [z_w0]; exact hc))))
        · exact h.elim
      · split at h
        · rename_i y x r
          obtain ⟨h1, h2, h3⟩ := h
          by_cases hc : q_cond a (q_w x) (q_w y) = true
          · exact step (by decide) (by decide) (by decide) (by simp only [q_step]; rw [if_pos hc]) (go (h2 (z_r_c ⟨h1.1, h1.2.1⟩ ⟨h1.2.2.1, h1.2.2.2⟩ hc)))
          · exact step (by decide) (by decide) (by decide) (by simp only [q_step]; rw [if_neg hc]) (go (h3 (z_n_c ⟨h1.1, h1.2.1⟩ ⟨h1.2.2.1, h1.2.2.2⟩ hc)))
        · exact h.elim
      · split at h
        · split at h
          · rename_i h1
            split at h
            · exact step (by decide) (by decide) (by decide) (by simp only [q_step]; rw [if_pos ⟨h1.1, h1.2, fun e => absurd e (by decide), fun e => absurd e (by decide)⟩]) (go h)
            · exact step (by decide) (by decide) (by decide) (by simp only [q_step]; rw [if_pos ⟨h1.1, h1.2, h.1.1, h.1.2⟩]) (go h.2)
          · exact h.elim
        · exact h.elim
      · split at h
        · split at h
          · obtain ⟨h1, h2, h3⟩ := h
            refine step (by decide) (by decide) (by decide) ?_ (go h3)
            have hs := z_sp_shp h1
            simp only [q_step, hs]; rw [if_pos ⟨trivial, h2⟩]
          · split at h
            · rename_i k m hs
              split at h
              · rename_i hk
                exact step (by decide) (by decide) (by decide) (by simp only [q_step, hs]; rw [if_pos ⟨hk, h.1⟩]) (go h.2)
              · exact h.elim
            · exact h.elim
        · exact h.elim
      · split at h
        · split at h
          · obtain ⟨h1, h2, h3⟩ := h
            refine step (by decide) (by decide) (by decide) ?_ (go h3)
            simp only [q_step, h1.2]; rw [if_pos ⟨h1.1, trivial, h2⟩]
          · split at h
            · rename_i k m hs
              split at h
              · rename_i hk
                exact step (by decide) (by decide) (by decide) (by simp only [q_step, hs]; rw [if_pos ⟨hk.1, hk.2, h.1⟩]) (go h.2)
              · exact h.elim
            · exact h.elim
        · exact h.elim
      · split at h
        · split at h
          · obtain ⟨h1, h2, h3⟩ := h
            refine step (by decide) (by decide) (by decide) ?_ (go h3)
            simp only [q_step, h1.2]; rw [if_pos ⟨h1.1, trivial, h2⟩]
          · split at h
            · rename_i k m hs
              split at h
              · rename_i hk
                exact step (by decide) (by decide) (by decide) (by simp only [q_step, hs]; rw [if_pos ⟨hk.1, hk.2, h.1⟩]) (go h.2)
              · exact h.elim
            · exact h.elim
        · exact h.elim
      · split at h
        · split at h
          · obtain ⟨h1, h2, h3⟩ := h
            refine step (by decide) (by decide) (by decide) ?_ (go h3)
            simp only [q_step, h1.2]; rw [if_pos ⟨h1.1, trivial, h2⟩]
          · split at h
            · rename_i k m hs
              split at h
              · rename_i hk
                exact step (by decide) (by decide) (by decide) (by simp only [q_step, hs]; rw [if_pos ⟨hk.1, hk.2, h.1⟩]) (go h.2)
              · exact h.elim
            · exact h.elim
        · exact h.elim
      · split at h
        · split at h
          · rename_i k m hs
            split at h
            · rename_i hk
              obtain ⟨⟨a1, a2, a3, a4⟩, h2⟩ := h
              exact step (by decide) (by decide) (by decide) (by simp only [q_step, hs]; rw [if_pos ⟨hk.1, hk.2.1, hk.2.2, a1, a2, by rw [a3]; exact a4⟩, a3]) (go h2)
            · exact h.elim
          · exact h.elim
        · exact h.elim
      · split at h
        · split at h
          · split at h
            · obtain ⟨h1, h2, h3⟩ := h
              refine step (by decide) (by decide) (by decide) ?_ (go h3)
              have hs := z_sp_shp h1
              simp only [q_step, hs]; rw [if_pos h2]
            · exact h.elim
          · split at h
            · rename_i hs
              exact step (by decide) (by decide) (by decide) hs (go h)
            · exact h.elim
        · exact h.elim
      · split at h
        · obtain ⟨h1, h2⟩ := h
          refine step (by decide) (by decide) (by decide) ?_ (go (z_swp_of h2))
          simp only [q_step]; rw [q_w_id h1.1 h1.2]
        · exact h.elim
      · split at h
        · obtain ⟨h1, h2⟩ := h
          refine step (by decide) (by decide) (by decide) ?_ (go (z_lkp_of h2))
          simp only [q_step]; rw [q_w_id h1.1 h1.2]
        · exact h.elim
      · split at h
        · split at h
          · split at h
            · split at h
              · rename_i hk
                obtain ⟨⟨s1, s2⟩, ⟨a1, a2, a3, a4, a5⟩, h2⟩ := h
                refine step (by decide) (by decide) (by decide) ?_ (go h2)
                simp only [q_step, s1.2, s2.2]
                rw [if_pos ⟨s1.1, s2.1, hk.1, by omega, trivial, a1, a2, a3, a4, a5, fun e => by omega⟩]
              · exact h.elim
            · exact h.elim
          · split at h
            · rename_i k0 n0 k1 n1 hs1 hs2
              split at h
              · rename_i hk
                obtain ⟨⟨a1, a2, a3, a4, a5⟩, h2⟩ := h
                refine step (by decide) (by decide) (by decide) ?_ (go h2)
                simp only [q_step, hs1, hs2]
                rw [if_pos ⟨hk.1, hk.2.1, hk.2.2.1, by omega, hk.2.2.2.2, a1, a2, a3, a4, a5, fun e => by omega⟩]
              · exact h.elim
            · exact h.elim
        · exact h.elim
      · split at h
        · rename_i pc' ls' st' S' hs
          split at h
          · exact h.elim
          · exact step (by assumption) (by assumption) (by assumption) hs (go h)
        · exact h.elim
/-- a call: along its code -/
theorem y_C_wp {j : Nat} {as : List q_V} {S : q_S} {Q : q_V → q_S → Prop} {cs ng : List Nat} {sy : List (Nat × Nat)} {n : Nat} {cd : List q_I} {k : Nat} (hP : q_P j = (cd, k)) (h : y_wp cd j cs ng sy n 0 (q_pad (q_args as) k) [] S Q) : z_C j as S Q := by
  unfold z_C
  rw [hP]
  exact y_wp_T (by rw [hP]) n _ _ _ _ _ h
