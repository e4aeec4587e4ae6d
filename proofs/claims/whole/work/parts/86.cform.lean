/-! CONTRACTS of the class: equations of the form, solved with the last relation first -/
def x_clo (p : Int) (A : x_A) (s c : Nat) : x_A := fun i j => if i = s then A s j * z_inv p (A s c) % p else (A i j - A i c * (A s j * z_inv p (A s c) % p)) % p
def x_so (p : Int) (n : Nat) : Nat → Nat → x_A → (Nat → Nat) → Nat × x_A × (Nat → Nat)
  | 0, s, A, f => (s, A, f)
  | c + 1, s, A, f => if x_fst (fun i => decide (¬ A i c = 0)) (n - s) s = n then x_so p n c s A f else x_so p n c (s + 1) (x_clo p (x_swp A (x_fst (fun i => decide (¬ A i c = 0)) (n - s) s) s) s c) (fun j => if j = c then s + 1 else f j)
def t_G (m : z_M) (n u : Nat) (A : x_A) : Prop := ∀ i j, i < n → j ≤ u → m (102 + i) j = A i j
def x_GR (p : Int) (n u : Nat) (A : x_A) : Prop := ∀ i j, i < n → j ≤ u → 0 ≤ A i j ∧ A i j < p
def t_sam (b h : Nat) (m m' : z_M) : Prop := ∀ a j, (a < b ∨ h < a) → m' a j = m a j
theorem t_F_sam {m m' : z_M} {p : Int} {b h : Nat} (hF : t_F m p) (hb : 62 < b) (f : t_sam b h m m') : t_F m' p := by
  have hp5 := z_pr_le hF.1
  exact ⟨hF.1, by rw [f 29 0 (by omega)]; exact hF.2.1, fun x e hx he => by rw [f (31 + x) e (by omega)]; exact hF.2.2.1 x e hx he, fun x hx => by rw [f 62 x (by omega)]; exact hF.2.2.2 x hx⟩
theorem x_clo_GR {p : Int} {n u s c : Nat} {A : x_A} (hp : z_pr p) : x_GR p n u (x_clo p A s c) := by
  intro i j hi hj
  have hp5 := z_pr_le hp
  unfold x_clo
  split <;> exact z_m0 (by omega)
theorem x_swp_GR {p : Int} {n u r c : Nat} {A : x_A} (hr : r < n) (hc : c < n) (h : x_GR p n u A) : x_GR p n u (x_swp A r c) := by
  intro i j hi hj
  unfold x_swp
  split
  · exact h c j hc hj
  · split
    · exact h r j hr hj
    · exact h i j hi hj
theorem c_clearOthers {m : z_M} {g : z_g} {Q : q_V → q_S → Prop} {p : Int} {A : x_A} {s c n u : Nat} {si ci : Int} (es : si = s) (ec : ci = c) (hF : t_F m p) (hn : n ≤ 6) (hu : u ≤ 4) (h3 : m 100 3 = (n : Int)) (h4 : m 100 4 = (u : Int)) (hs : s < n) (hc : c < u) (hA : t_G m n u A) (hR : x_GR p n u A) (kk : ∀ m', t_sam 102 107 m m' → t_G m' n u (x_clo p A s c) → Q q_dead (z_st m' g)) : z_C 108 [.inr (.inr 100), .inl si, .inl ci] (z_st m g) Q := by
  have hp := hF.1
  have hp5 := z_pr_le hp
  have hiv := z_inv_rng (x := A s c) hp
  have hFm : ∀ m' : z_M, t_sam 102 107 m m' → m' 29 0 = p := fun m' f => (t_F_sam hF (by decide) f).2.1
  -- all rows but its own
  have out : ∀ (d i : Nat) (ii : Int) (m' : z_M) (v5 v6 : q_V), n - i = d → ii = (i : Int) → i ≤ n → t_sam 102 107 m m' → (∀ a b, a < n → b ≤ u → m' (102 + a) b = if a = s ∨ a < i then x_clo p A s c a b else A a b) → z_T 108 36 [.inr (.inr 100), .inl si, .inl ci, .inl (z_inv p (A s c)), .inl ii, v5, v6] [] (z_st m' g) Q := by
    intro d
    induction d with
    | zero =>
      intro i ii m' v5 v6 hd he hi f1 f2
      have e3 : m' 100 3 = (n : Int) := by rw [f1 100 3 (by omega)]; exact h3
      refine y_108_36 ⟨(by unfold z_ok2; omega), fun _ => kk m' f1 fun a b ha hb => ?_, (fun h => absurd h (by omega))⟩
      rw [f2 a b ha hb, if_pos (by omega)]
    | succ d ih =>
      intro i ii m' v5 v6 hd he hi f1 f2
      have e3 : m' 100 3 = (n : Int) := by rw [f1 100 3 (by omega)]; exact h3
      have fin : ∀ (m2 : z_M) (v5 v6 : q_V), t_sam 102 107 m m2 → (∀ a b, a < n → b ≤ u → m2 (102 + a) b = if a = s ∨ a < i + 1 then x_clo p A s c a b else A a b) → z_T 108 36 [.inr (.inr 100), .inl si, .inl ci, .inl (z_inv p (A s c)), .inl (ii + (1 : Int)), v5, v6] [] (z_st m2 g) Q := fun m2 v5 v6 g1 g2 => ih (i + 1) _ m2 v5 v6 (by omega) (by omega) (by omega) g1 g2
      refine y_108_36 ⟨(by unfold z_ok2; omega), (fun h => absurd h (by omega)), fun _ => ⟨(by unfold z_ok2; omega), fun his => ?_, fun his => ?_⟩⟩
      · have his : ¬ i = s := by omega
        have b1 := hR i c (by omega) (by omega)
        have e5 : m' (102 + i) c = A i c := by rw [f2 i c (by omega) (by omega), if_neg (by omega)]
        have inn : ∀ (d j : Nat) (ji : Int) (m' : z_M), u + 1 - j = d → ji = (j : Int) → j ≤ u + 1 → t_sam 102 107 m m' → (∀ a b, a < n → b ≤ u → m' (102 + a) b = if a = s ∨ a < i ∨ (a = i ∧ b < j) then x_clo p A s c a b else A a b) → z_T 108 54 [.inr (.inr 100), .inl si, .inl ci, .inl (z_inv p (A s c)), .inl ii, .inl (A i c), .inl ji] [] (z_st m' g) Q := by
          intro d2
          induction d2 with
          | zero =>
            intro j ji m' hd2 he2 hj g1 g2
            have e4 : m' 100 4 = (u : Int) := by rw [g1 100 4 (by omega)]; exact h4
            have gg : ∀ a b, a < n → b ≤ u → m' (102 + a) b = if a = s ∨ a < i + 1 then x_clo p A s c a b else A a b := fun a b ha hb => by
              rw [g2 a b ha hb]
              by_cases h : a = s ∨ a < i + 1
              · rw [if_pos h, if_pos (by omega)]
              · rw [if_neg h, if_neg (by omega)]
            exact y_108_54 ⟨(by unfold z_ok; omega), fun _ => fin m' _ _ g1 gg, fun _ => ⟨(by unfold z_ok2; omega), fun _ => fin m' _ _ g1 gg, (fun h => absurd h (by omega))⟩⟩
          | succ d2 ih2 =>
            intro j ji m' hd2 he2 hj g1 g2
            have e4 : m' 100 4 = (u : Int) := by rw [g1 100 4 (by omega)]; exact h4
            have e6 : m' (102 + i) j = A i j := by rw [g2 i j (by omega) (by omega), if_neg (by omega)]
            have e7 : m' (102 + s) j = A s j * z_inv p (A s c) % p := by
              rw [g2 s j (by omega) (by omega), if_pos (by omega)]
              unfold x_clo
              rw [if_pos rfl]
            have b4 := hR i j (by omega) (by omega)
            have b5 := z_m0 (p := p) (a := A s j * z_inv p (A s c)) (by omega)
            have b6 : 0 ≤ A i c * (A s j * z_inv p (A s c) % p) ∧ A i c * (A s j * z_inv p (A s c) % p) ≤ 31 * 31 := ⟨Int.mul_nonneg (by omega) (by omega), Int.mul_le_mul (by omega) (by omega) (by omega) (by omega)⟩
            refine y_108_54 ⟨(by unfold z_ok; omega), fun hz => ?_, fun _ => ⟨(by unfold z_ok2; omega), (fun h => absurd h (by omega)), fun _ => ⟨z_rw101 (by omega) (by omega), z_rw101 (by omega) (by omega), z_sp101 (by omega), ⟨by omega, by omega⟩, z_rw101 (by omega) (by omega), z_sp101 (by omega), ⟨by omega, by omega⟩, ?_⟩⟩⟩
            · refine fin m' _ _ g1 fun a b ha hb => ?_
              rw [g2 a b ha hb]
              by_cases h : a = s ∨ a < i + 1
              · rw [if_pos h]
                by_cases h2 : a = s ∨ a < i ∨ (a = i ∧ b < j)
                · rw [if_pos h2]
                · rw [if_neg h2]
                  have hai : a = i := by omega
                  have b7 := hR i b (by omega) hb
                  unfold x_clo
                  rw [hai, if_neg his, hz, Int.zero_mul, Int.sub_zero, z_mi b7.1 b7.2]
              · rw [if_neg h, if_neg (by omega)]
            · rw [show ii.toNat = i by omega, show si.toNat = s by omega, show ji.toNat = j by omega, e6, e7]
              refine c_mod' hp (hFm m' g1) (by unfold z_ok; omega) (y_108_83 ⟨?_, ⟨by omega, by omega⟩, ?_⟩)
              · have := z_sp101 (t := g.2.2.1) (i := ii) (by omega)
                rw [show ii.toNat = i by omega] at this
                exact this
              · rw [show ji.toNat = j by omega]
                refine ih2 (j + 1) _ _ (by omega) (by omega) (by omega) ?_ ?_
                · intro a b ha
                  unfold q_upd
                  rw [if_neg (by omega)]
                  exact g1 a b ha
                · intro a b ha hb
                  unfold q_upd
                  by_cases hh : a = i ∧ b = j
                  · rw [if_pos (by omega), if_pos (by omega), hh.1, hh.2]
                    unfold x_clo
                    rw [if_neg his]
                  · rw [if_neg (by omega), g2 a b ha hb]
                    by_cases h2 : a = s ∨ a < i ∨ (a = i ∧ b < j)
                    · rw [if_pos h2, if_pos (by omega)]
                    · rw [if_neg h2, if_neg (by omega)]
        refine ⟨z_rw101 (by omega) (by omega), z_sp101 (by omega), ⟨by omega, by omega⟩, ?_⟩
        rw [show ii.toNat = i by omega, show ci.toNat = c by omega, e5]
        refine inn (u + 1) 0 0 m' rfl rfl (by omega) f1 fun a b ha hb => ?_
        rw [f2 a b ha hb]
        by_cases h : a = s ∨ a < i
        · rw [if_pos h, if_pos (by omega)]
        · rw [if_neg h, if_neg (by omega)]
      · have gg : ∀ a b, a < n → b ≤ u → m' (102 + a) b = if a = s ∨ a < i + 1 then x_clo p A s c a b else A a b := fun a b ha hb => by
          rw [f2 a b ha hb]
          by_cases h : a = s ∨ a < i
          · rw [if_pos h, if_pos (by omega)]
          · rw [if_neg h, if_neg (by omega)]
        exact y_108_54 ⟨(by unfold z_ok; omega), fun _ => fin m' _ _ f1 gg, fun h => absurd rfl h⟩
  -- its own row
  have own : ∀ (d j : Nat) (ji : Int) (m' : z_M), u + 1 - j = d → ji = (j : Int) → j ≤ u + 1 → t_sam 102 107 m m' → (∀ a b, a < n → b ≤ u → m' (102 + a) b = if a = s ∧ b < j then x_clo p A s c a b else A a b) → z_T 108 12 [.inr (.inr 100), .inl si, .inl ci, .inl (z_inv p (A s c)), .inl ji, q_dead, q_dead] [] (z_st m' g) Q := by
    intro d
    induction d with
    | zero =>
      intro j ji m' hd he hj f1 f2
      have e4 : m' 100 4 = (u : Int) := by rw [f1 100 4 (by omega)]; exact h4
      refine y_108_12 ⟨(by unfold z_ok2; omega), fun _ => ?_, (fun h => absurd h (by omega))⟩
      refine out n 0 0 m' _ _ rfl rfl (by omega) f1 fun a b ha hb => ?_
      rw [f2 a b ha hb]
      by_cases h : a = s
      · rw [if_pos (by omega), if_pos (by omega)]
      · rw [if_neg (by omega), if_neg (by omega)]
    | succ d ih =>
      intro j ji m' hd he hj f1 f2
      have e4 : m' 100 4 = (u : Int) := by rw [f1 100 4 (by omega)]; exact h4
      have e5 : m' (102 + s) j = A s j := by rw [f2 s j hs (by omega), if_neg (by omega)]
      have b1 := hR s j hs (by omega)
      have b2 : 0 ≤ A s j * z_inv p (A s c) ∧ A s j * z_inv p (A s c) ≤ 31 * 31 := ⟨Int.mul_nonneg (by omega) (by omega), Int.mul_le_mul (by omega) (by omega) (by omega) (by omega)⟩
      refine y_108_12 ⟨(by unfold z_ok2; omega), (fun h => absurd h (by omega)), fun _ => ⟨z_rw101 (by omega) (by omega), z_rw101 (by omega) (by omega), z_sp101 (by omega), ⟨by omega, by omega⟩, ?_⟩⟩
      rw [show si.toNat = s by omega, show ji.toNat = j by omega, e5]
      refine c_product hp (hFm m' f1) (by unfold z_ok; omega) (y_108_31 ⟨?_, ⟨by omega, by omega⟩, ?_⟩)
      · have := z_sp101 (t := g.2.2.1) (i := si) (by omega)
        rw [show si.toNat = s by omega] at this
        exact this
      · rw [show ji.toNat = j by omega]
        refine ih (j + 1) _ _ (by omega) (by omega) (by omega) ?_ ?_
        · intro a b ha
          unfold q_upd
          rw [if_neg (by omega)]
          exact f1 a b ha
        · intro a b ha hb
          unfold q_upd
          by_cases hh : a = s ∧ b = j
          · rw [if_pos (by omega), if_pos (by omega), hh.1, hh.2]
            unfold x_clo
            rw [if_pos rfl]
          · rw [if_neg (by omega), f2 a b ha hb]
            by_cases h2 : a = s ∧ b < j
            · rw [if_pos h2, if_pos (by omega)]
            · rw [if_neg h2, if_neg (by omega)]
  have bsc := hR s c hs (by omega)
  refine y_108 ⟨z_rw101 (by omega) (by omega), z_sp101 (by omega), ⟨by omega, by omega⟩, ?_⟩
  rw [show si.toNat = s by omega, show ci.toNat = c by omega, hA s c hs (by omega)]
  refine c_over hF bsc.1 bsc.2 (y_108_9 ?_)
  refine own (u + 1) 0 0 m rfl rfl (by omega) (fun _ _ _ => rfl) fun a b ha hb => ?_
  rw [if_neg (by omega)]
  exact hA a b ha hb
theorem c_restIsZero {m : z_M} {g : z_g} {Q : q_V → q_S → Prop} {p : Int} {A : x_A} {s n u : Nat} {si : Int} (es : si = s) (hp : z_pr p) (hn : n ≤ 6) (hu : u ≤ 4) (h3 : m 100 3 = (n : Int)) (h4 : m 100 4 = (u : Int)) (hs : s ≤ n) (hA : t_G m n u A) (hR : x_GR p n u A) (k1 : (∀ i, s ≤ i → i < n → A i u = 0) → Q (.inl 1) (z_st m g)) (k0 : ¬ (∀ i, s ≤ i → i < n → A i u = 0) → Q (.inl 0) (z_st m g)) : z_C 109 [.inr (.inr 100), .inl si] (z_st m g) Q := by
  have hp5 := z_pr_le hp
  have loop : ∀ (d i : Nat) (ii : Int), n - i = d → ii = (i : Int) → s ≤ i → i ≤ n → (∀ a, s ≤ a → a < i → A a u = 0) → z_T 109 2 [.inr (.inr 100), .inl si, .inl ii] [] (z_st m g) Q := by
    intro d
    induction d with
    | zero =>
      intro i ii hd he h1 h2 hz
      exact y_109_2 ⟨(by unfold z_ok2; omega), fun _ => k1 fun a ha hb => hz a ha (by omega), (fun h => absurd h (by omega))⟩
    | succ d ih =>
      intro i ii hd he h1 h2 hz
      have b1 := hR i u (by omega) (by omega)
      refine y_109_2 ⟨(by unfold z_ok2; omega), (fun h => absurd h (by omega)), fun _ => ⟨z_rw101 (by omega) (by omega), z_sp101 (by omega), ⟨by omega, by omega⟩, ?_⟩⟩
      rw [show ii.toNat = i by omega, h4, show ((u : Nat) : Int).toNat = u by omega, hA i u (by omega) (by omega)]
      refine ⟨(by unfold z_ok; omega), fun h => ?_, fun h => k0 fun hh => h (hh i h1 (by omega))⟩
      refine ih (i + 1) _ (by omega) (by omega) (by omega) (by omega) fun a ha hb => ?_
      by_cases hai : a = i
      · rw [hai]; exact h
      · exact hz a ha (by omega)
  exact y_109 (loop _ s _ rfl es (by omega) hs (fun a h1 h2 => by omega))
/-- the equations: a row an exponent, its last number what is due -/
def x_eqs (p : Int) (S : Nat) (N : Nat → Int) (x : Int) : x_A := fun k c => if c + 2 < x_many S then x_rel S c k % p else N (x_at S k) * (x ^ x_at S k % p) % p
theorem x_rel_ok {S i k : Nat} (hi : i + 2 < x_many S) : -12 ≤ x_rel S i k ∧ x_rel S i k ≤ 12 := by
  have a1 := x_at_lt (S := S) (i := i) (j := i + 1) (by omega) (by omega)
  have a2 := x_at_lt (S := S) (i := i + 1) (j := i + 2) (by omega) (by omega)
  have a3 := x_at_le (S := S) (k := i + 2) (by omega)
  have key : ∀ (a : Int) (d : Nat), -12 ≤ a → a ≤ 12 → -12 ≤ a.tdiv d ∧ a.tdiv d ≤ 12 := by
    intro a d h1 h2
    have h3 : (a.tdiv d).natAbs ≤ a.natAbs := by
      rw [Int.natAbs_tdiv]
      exact Nat.div_le_self _ _
    omega
  unfold x_rel
  split
  · exact key _ _ (by omega) (by omega)
  · split
    · exact key _ _ (by omega) (by omega)
    · split
      · exact key _ _ (by omega) (by omega)
      · omega
theorem x_eqs_GR {p : Int} {S : Nat} {N : Nat → Int} {x : Int} {n u : Nat} (hp : z_pr p) : x_GR p n u (x_eqs p S N x) := by
  intro i j hi hj
  have hp5 := z_pr_le hp
  unfold x_eqs
  split <;> exact z_m0 (by omega)
theorem t_T_sam {m m' : z_M} {p : Int} {S : Nat} {N : Nat → Int} {b h : Nat} (hT : t_TT m p S N) (hb : 68 < b) (f : t_sam b h m m') : t_TT m' p S N := by
  obtain ⟨t1, ⟨t5, t6⟩, t7⟩ := hT
  exact ⟨t_F_sam t1 (by omega) f, ⟨by rw [f 66 1 (by omega)]; exact t5, fun k hk => by rw [f 67 k (by omega)]; exact t6 k hk⟩, fun k hk => by rw [f 68 k (by omega)]; exact t7 k hk⟩
theorem c_gbecome {m : z_M} {g : z_g} {Q : q_V → q_S → Prop} {p x : Int} {S : Nat} {N : Nat → Int} (h2 : 2 ≤ x_many S) (h6 : x_many S ≤ 6) (hT : t_TT m p S N) (hN : x_N p S N) (h0 : 0 ≤ x) (h1 : x < p) (kk : ∀ m', t_sam 100 107 m m' → m' 100 3 = (x_many S : Int) → m' 100 4 = ((x_many S - 2 : Nat) : Int) → t_G m' (x_many S) (x_many S - 2) (x_eqs p S N x) → Q q_dead (z_st m' g)) : z_C 107 [.inr (.inr 100), .inr (.inr 65), .inl x] (z_st m g) Q := by
  have hp := hT.1.1
  have hp5 := z_pr_le hp
  have out : ∀ (d k : Nat) (ki : Int) (m' : z_M) (v : q_V), x_many S - k = d → ki = (k : Int) → k ≤ x_many S → t_sam 100 107 m m' → m' 100 3 = (x_many S : Int) → m' 100 4 = ((x_many S - 2 : Nat) : Int) → (∀ a b, a < k → b ≤ x_many S - 2 → m' (102 + a) b = x_eqs p S N x a b) → z_T 107 13 [.inr (.inr 100), .inr (.inr 65), .inl x, .inr (.inr 66), .inl ki, v] [] (z_st m' g) Q := by
    intro d
    induction d with
    | zero =>
      intro k ki m' v hd he hk f1 f2 f3 f4
      exact y_107_13 ⟨(by unfold z_ok2; omega), fun _ => kk m' f1 f2 f3 fun a b ha hb => f4 a b (by omega) hb, (fun h => absurd h (by omega))⟩
    | succ d ih =>
      intro k ki m' v hd he hk f1 f2 f3 f4
      have inn : ∀ (d c : Nat) (ci : Int) (m' : z_M), x_many S - 2 - c = d → ci = (c : Int) → c ≤ x_many S - 2 → t_sam 100 107 m m' → m' 100 3 = (x_many S : Int) → m' 100 4 = ((x_many S - 2 : Nat) : Int) → (∀ a b, a < k → b ≤ x_many S - 2 → m' (102 + a) b = x_eqs p S N x a b) → (∀ b, b < c → m' (102 + k) b = x_eqs p S N x k b) → z_T 107 19 [.inr (.inr 100), .inr (.inr 65), .inl x, .inr (.inr 66), .inl ki, .inl ci] [] (z_st m' g) Q := by
        intro d2
        induction d2 with
        | zero =>
          intro c ci m' hd2 he2 hc f1 f2 f3 f4 f5
          have hT' := t_T_sam hT (by decide) f1
          have hl := x_at_le (S := S) (k := k) (by omega)
          have b1 := hN.1 (x_at S k)
          have b2 := z_m0 (p := p) (a := x ^ x_at S k) (by omega)
          have b3 : 0 ≤ N (x_at S k) * (x ^ x_at S k % p) ∧ N (x_at S k) * (x ^ x_at S k % p) ≤ 31 * 31 := ⟨Int.mul_nonneg (by omega) (by omega), Int.mul_le_mul (by omega) (by omega) (by omega) (by omega)⟩
          refine y_107_19 ⟨(by unfold z_ok2; omega), fun _ => ⟨z_rw101 (by omega) (by omega), c_numberAt h6 hT' (by omega) (by omega) (y_107_49 (c_eat_b h6 hT'.2.1 (by omega) (by omega) (y_107_55 ?_)))⟩, (fun h => absurd h (by omega))⟩
          rw [show ki.toNat = k by omega]
          refine c_power hT'.1 h0 h1 (by omega) (by omega) (y_107_56 ?_)
          rw [show ((x_at S k : Nat) : Int).toNat = x_at S k by omega]
          refine c_product hp hT'.1.2.1 (by unfold z_ok; omega) (y_107_57 ⟨?_, ⟨by omega, by omega⟩, ?_⟩)
          · have := z_sp101 (t := g.2.2.1) (i := ki) (by omega)
            rw [show ki.toNat = k by omega] at this
            exact this
          · rw [f3, show ((x_many S - 2 : Nat) : Int).toNat = x_many S - 2 by omega]
            refine ih (k + 1) _ _ _ (by omega) (by omega) (by omega) ?_ ?_ ?_ ?_
            · intro a b ha
              unfold q_upd
              rw [if_neg (by omega)]
              exact f1 a b ha
            · unfold q_upd
              rw [if_neg (by omega)]
              exact f2
            · unfold q_upd
              rw [if_neg (by omega)]
              exact f3
            · intro a b ha hb
              unfold q_upd
              by_cases hh : a = k ∧ b = x_many S - 2
              · rw [if_pos (by omega), hh.1, hh.2]
                unfold x_eqs
                rw [if_neg (by omega)]
              · rw [if_neg (by omega)]
                by_cases hak : a = k
                · rw [hak]; exact f5 b (by omega)
                · exact f4 a b (by omega) hb
        | succ d2 ih2 =>
          intro c ci m' hd2 he2 hc f1 f2 f3 f4 f5
          have hT' := t_T_sam hT (by decide) f1
          have hr := x_rel_ok (S := S) (i := c) (k := k) (by omega)
          refine y_107_19 ⟨(by unfold z_ok2; omega), (fun h => absurd h (by omega)), fun _ => ⟨z_rw101 (by omega) (by omega), c_rel_b h6 hT'.2.1 (by omega) (by omega) (by omega) (by omega) (y_107_34 ?_)⟩⟩
          rw [show ki.toNat = k by omega, show ci.toNat = c by omega]
          refine c_mod' hp hT'.1.2.1 (by unfold z_ok; omega) (y_107_35 ⟨?_, ⟨by omega, by omega⟩, ?_⟩)
          · have := z_sp101 (t := g.2.2.1) (i := ki) (by omega)
            rw [show ki.toNat = k by omega] at this
            exact this
          · rw [show ci.toNat = c by omega]
            refine ih2 (c + 1) _ _ (by omega) (by omega) (by omega) ?_ ?_ ?_ ?_ ?_
            · intro a b ha
              unfold q_upd
              rw [if_neg (by omega)]
              exact f1 a b ha
            · unfold q_upd
              rw [if_neg (by omega)]
              exact f2
            · unfold q_upd
              rw [if_neg (by omega)]
              exact f3
            · intro a b ha hb
              unfold q_upd
              rw [if_neg (by omega)]
              exact f4 a b ha hb
            · intro b hb
              unfold q_upd
              by_cases hbc : b = c
              · rw [if_pos (by omega), hbc]
                unfold x_eqs
                rw [if_pos (by omega)]
              · rw [if_neg (by omega)]
                exact f5 b (by omega)
      refine y_107_13 ⟨(by unfold z_ok2; omega), (fun h => absurd h (by omega)), fun _ => ?_⟩
      exact inn _ 0 0 m' rfl rfl (by omega) f1 f2 f3 f4 (fun b hb => by omega)
  have f0 : t_sam 100 107 m (q_upd m 100 3 (m 66 1)) := fun a b ha => by
    unfold q_upd
    rw [if_neg (by omega)]
  refine y_107 (c_rels_b h2 h6 (t_T_sam hT (by decide) f0).2.1 (y_107_10 ?_))
  refine out _ 0 0 _ _ rfl rfl (by omega) ?_ ?_ ?_ (fun a b ha => by omega)
  · intro a b ha
    unfold q_upd
    rw [if_neg (by omega), if_neg (by omega)]
  · exact hT.2.1.1
  · show (x_many S : Int) - 2 = _
    omega
/-- what BY is: of the rows that were solved -/
def x_byf (u : Nat) (R : Nat × x_A × (Nat → Nat)) : Nat → Int := fun c => if R.2.2 c = 0 then 0 else R.2.1 (R.2.2 c - 1) u
theorem x_so_rng {p : Int} {n : Nat} : ∀ (c s : Nat) (A : x_A) (f : Nat → Nat), s ≤ n → (∀ j, f j ≤ s) → (x_so p n c s A f).1 ≤ n ∧ ∀ j, (x_so p n c s A f).2.2 j ≤ (x_so p n c s A f).1
  | 0, s, A, f, hs, hf => ⟨hs, hf⟩
  | c + 1, s, A, f, hs, hf => by
    have hr := x_fst_rng (fun i => decide (¬ A i c = 0)) (n - s) s
    unfold x_so
    split
    · exact x_so_rng c s A f hs hf
    · refine x_so_rng c (s + 1) _ _ (by omega) fun j => ?_
      have := hf j
      split <;> omega
theorem c_solve {m : z_M} {g : z_g} {Q : q_V → q_S → Prop} {p x : Int} {S : Nat} {N : Nat → Int} (h2 : 2 ≤ x_many S) (h6 : x_many S ≤ 6) (hT : t_TT m p S N) (hN : x_N p S N) (h0 : 0 ≤ x) (h1 : x < p) (kk : ∀ m' (v : Int), t_sam 100 108 m m' → m' 100 4 = ((x_many S - 2 : Nat) : Int) → (∀ c, c < x_many S - 2 → m' 108 c = x_byf (x_many S - 2) (x_so p (x_many S) (x_many S - 2) 0 (x_eqs p S N x) (fun _ => 0)) c) → (v = 0 ∨ v = 1) → (v = 1 ↔ ∀ i, (x_so p (x_many S) (x_many S - 2) 0 (x_eqs p S N x) (fun _ => 0)).1 ≤ i → i < x_many S → (x_so p (x_many S) (x_many S - 2) 0 (x_eqs p S N x) (fun _ => 0)).2.1 i (x_many S - 2) = 0) → Q (.inl v) (z_st m' g)) : z_C 106 [.inr (.inr 100), .inr (.inr 65), .inl x] (z_st m g) Q := by
  have hp := hT.1.1
  have hp5 := z_pr_le hp
  obtain ⟨n, en⟩ : ∃ n, x_many S = n := ⟨_, rfl⟩
  obtain ⟨u, eu⟩ : ∃ u, x_many S - 2 = u := ⟨_, rfl⟩
  obtain ⟨R, eR⟩ : ∃ R, x_so p (x_many S) (x_many S - 2) 0 (x_eqs p S N x) (fun _ => 0) = R := ⟨_, rfl⟩
  rw [eR, eu] at kk
  refine y_106 (c_gbecome h2 h6 hT hN h0 h1 fun m1 f1 f2 f3 f4 => y_106_4 (c_fillI (n := 6) (by decide) rfl (by decide) (y_106_8 ?_)))
  rw [eu] at f3 f4 eR
  rw [en] at f2 f4 eR kk h6 h2
  -- reading off what was found
  have read : ∀ (d c : Nat) (ci : Int) (m' : z_M) (v : q_V), u - c = d → ci = (c : Int) → c ≤ u → t_sam 100 108 m m' → m' 100 3 = (n : Int) → m' 100 4 = (u : Int) → t_G m' n u R.2.1 → x_GR p n u R.2.1 → R.1 ≤ n → (∀ j, R.2.2 j ≤ R.1) → (∀ j, j < c → m' 108 j = x_byf u R j) → (∀ j, c ≤ j → j < u → m' 108 j = (R.2.2 j : Int)) → z_T 106 52 [.inr (.inr 100), .inr (.inr 65), .inl x, .inl (R.1 : Int), .inl ci, v] [] (z_st m' g) Q := by
    intro d
    induction d with
    | zero =>
      intro c ci m' v hd he hc g1 g2 g3 g4 g5 g6 g7 g8 g9
      obtain rfl : c = u := by omega
      refine y_106_52 ⟨(by unfold z_ok2; omega), fun _ => ?_, (fun h => absurd h (by omega))⟩
      refine c_restIsZero (A := R.2.1) (n := n) (u := c) rfl hp h6 (by omega) g2 g3 g6 g4 g5 (fun hz => ?_) (fun hz => ?_)
      · exact y_106_84 ⟨Or.inr rfl, kk m' 1 g1 g3 g8 (Or.inr rfl) ⟨fun _ => hz, fun _ => rfl⟩⟩
      · exact y_106_84 ⟨Or.inl rfl, kk m' 0 g1 g3 g8 (Or.inl rfl) ⟨fun h => absurd h (by decide), fun h => absurd h hz⟩⟩
    | succ d ih =>
      intro c ci m' v hd he hc g1 g2 g3 g4 g5 g6 g7 g8 g9
      have e8 := g9 c (Nat.le_refl _) (by omega)
      have e9 := g7 c
      refine y_106_52 ⟨(by unfold z_ok2; omega), (fun h => absurd h (by omega)), fun _ => ⟨⟨by omega, by omega⟩, ?_⟩⟩
      rw [show ci.toNat = c by omega, e8, g3, show ((u : Nat) : Int).toNat = u by omega]
      have step : ∀ w : Int, w = x_byf u R c → z_T 106 52 [.inr (.inr 100), .inr (.inr 65), .inl x, .inl (R.1 : Int), .inl (ci + (1 : Int)), v] [] (z_st (q_upd m' 108 c w) g) Q := fun w hw => by
        refine ih (c + 1) _ _ _ (by omega) (by omega) (by omega) ?_ ?_ ?_ ?_ g5 g6 g7 ?_ ?_
        · intro a b ha
          unfold q_upd
          rw [if_neg (by omega)]
          exact g1 a b ha
        · unfold q_upd
          rw [if_neg (by omega)]
          exact g2
        · unfold q_upd
          rw [if_neg (by omega)]
          exact g3
        · intro a b ha hb
          unfold q_upd
          rw [if_neg (by omega)]
          exact g4 a b ha hb
        · intro j hj
          unfold q_upd
          by_cases hjc : j = c
          · rw [if_pos ⟨rfl, hjc⟩, hjc]; exact hw
          · rw [if_neg (by omega)]
            exact g8 j (by omega)
        · intro j hj1 hj2
          unfold q_upd
          rw [if_neg (by omega)]
          exact g9 j (by omega) hj2
      refine ⟨(by unfold z_ok; omega), fun hne => ⟨⟨by omega, by omega⟩, z_rw101 (by omega) (by omega), z_sp101 (by omega), ⟨by omega, by omega⟩, ⟨by omega, by omega⟩, ?_⟩, fun hz => ⟨⟨by omega, by omega⟩, step _ ?_⟩⟩
      · rw [show ((R.2.2 c : Int) - 1).toNat = R.2.2 c - 1 by omega, g4 _ u (by omega) (by omega)]
        refine step _ ?_
        unfold x_byf
        rw [if_neg (by omega)]
      · unfold x_byf
        rw [if_pos (by omega)]
  -- column by column, the last one first
  have cols : ∀ (c s : Nat) (ci : Int) (A : x_A) (f : Nat → Nat) (m' : z_M) (v : q_V), ci = (c : Int) - 1 → c ≤ u → s ≤ n → (∀ j, f j ≤ s) → t_sam 100 108 m m' → m' 100 3 = (n : Int) → m' 100 4 = (u : Int) → t_G m' n u A → x_GR p n u A → (∀ j, j < u → m' 108 j = (f j : Int)) → x_so p n c s A f = R → z_T 106 15 [.inr (.inr 100), .inr (.inr 65), .inl x, .inl (s : Int), .inl ci, v] [] (z_st m' g) Q := by
    intro c
    induction c with
    | zero =>
      intro s ci A f m' v he hc hs hf g1 g2 g3 g4 g5 g6 hR
      have hR1 : R.1 = s := by rw [← hR]; rfl
      have hR2 : R.2.1 = A := by rw [← hR]; rfl
      have hR3 : R.2.2 = f := by rw [← hR]; rfl
      refine y_106_15 ⟨(by unfold z_ok; omega), fun _ => ?_, (fun h => absurd h (by omega))⟩
      rw [← hR1]
      refine read u 0 0 m' _ rfl rfl (by omega) g1 g2 g3 ?_ ?_ (by omega) ?_ (fun j hj => by omega) ?_
      · rw [hR2]; exact g4
      · rw [hR2]; exact g5
      · rw [hR3, hR1]; exact hf
      · rw [hR3]; intro j _ hj; exact g6 j hj
    | succ c ih =>
      intro s ci A f m' v he hc hs hf g1 g2 g3 g4 g5 g6 hR
      have hT' := t_T_sam hT (by decide) g1
      unfold x_so at hR
      refine y_106_15 ⟨(by unfold z_ok; omega), (fun h => absurd h (by omega)), fun _ => ?_⟩
      refine c_rnz_b (A := A) (c := c) (r := s) (n := n) (by omega) rfl g2 (by omega) hs h6 (fun i h1 h2 => ⟨g4 i c h2 (by omega), by have := g5 i c h2 (by omega); exact (by unfold z_ok; omega)⟩) (fun r hr hrn => ?_) (fun hr => ?_)
      · rw [hr] at hR
        rw [if_neg (by omega)] at hR
        have hrs := (x_fst_rng (fun i => decide (¬ A i c = 0)) (n - s) s).1
        rw [hr] at hrs
        refine y_106_24 ⟨(by unfold z_ok; omega), (fun h => absurd h (by omega)), fun _ => ?_⟩
        refine c_swap_b (r := r) (c := s) (w := u + 1) rfl rfl (by omega) (by omega) (by omega) (by omega) fun m2 j1 j2 => y_106_36 ?_
        have j1' : t_sam 100 108 m m2 := fun a b ha => by rw [j1 a b (by omega), g1 a b ha]
        have j3 : t_G m2 n u (x_swp A r s) := fun i j hi hj => by
          rw [j2 i j (by omega), if_pos (by omega)]
          unfold x_swp
          show (if i = r then m' (102 + s) j else if i = s then m' (102 + r) j else m' (102 + i) j) = _
          rw [g4 s j (by omega) hj, g4 r j (by omega) hj, g4 i j hi hj]
        refine c_clearOthers (A := x_swp A r s) (s := s) (c := c) (n := n) (u := u) rfl (by omega) (t_T_sam hT (by decide) j1').1 h6 (by omega) (by rw [j1 100 3 (by omega)]; exact g2) (by rw [j1 100 4 (by omega)]; exact g3) (by omega) (by omega) j3 (x_swp_GR (by omega) (by omega) g5) fun m3 l1 l2 => y_106_40 ⟨⟨by omega, by omega⟩, ?_⟩
        rw [show ci.toNat = c by omega]
        refine ih (s + 1) _ _ _ _ _ (by omega) (by omega) (by omega) ?_ ?_ ?_ ?_ ?_ (x_clo_GR hp) ?_ hR
        · intro j
          have := hf j
          split <;> omega
        · intro a b ha
          unfold q_upd
          rw [if_neg (by omega), l1 a b (by omega)]
          exact j1' a b ha
        · unfold q_upd
          rw [if_neg (by omega), l1 100 3 (by omega), j1 100 3 (by omega)]
          exact g2
        · unfold q_upd
          rw [if_neg (by omega), l1 100 4 (by omega), j1 100 4 (by omega)]
          exact g3
        · intro a b ha hb
          unfold q_upd
          rw [if_neg (by omega)]
          exact l2 a b ha hb
        · intro j hj
          unfold q_upd
          by_cases hjc : j = c
          · rw [if_pos ⟨rfl, hjc⟩, if_pos hjc]; rfl
          · rw [if_neg (by omega), if_neg hjc, l1 108 j (by omega), j1 108 j (by omega)]
            exact g6 j hj
      · rw [if_pos hr] at hR
        exact y_106_24 ⟨(by unfold z_ok; omega), fun _ => ih s _ A f m' _ (by omega) (by omega) hs hf g1 g2 g3 g4 g5 g6 hR, (fun h => absurd h (by omega))⟩
  have f1' : t_sam 100 108 m (f_fill m1 108 6 0) := fun a b ha => by
    unfold f_fill
    rw [if_neg (by omega)]
    exact f1 a b (by omega)
  refine cols u 0 _ (x_eqs p S N x) (fun _ => 0) _ _ ?_ (by omega) (by omega) (fun _ => Nat.le_refl _) f1' ?_ ?_ ?_ (x_eqs_GR hp) ?_ eR
  · show f_fill m1 108 6 0 100 4 - 1 = _
    unfold f_fill
    rw [if_neg (by omega), f3]
  · unfold f_fill
    rw [if_neg (by omega)]
    exact f2
  · unfold f_fill
    rw [if_neg (by omega)]
    exact f3
  · intro a b ha hb
    unfold f_fill
    rw [if_neg (by omega)]
    exact f4 a b ha hb
  · intro j hj
    unfold f_fill
    rw [if_pos (by omega)]
    rfl
theorem c_byOf {m : z_M} {g : z_g} {Q : q_V → q_S → Prop} {u : Nat} {i : Int} {v : Int} (hu : u ≤ 4) (h4 : m 100 4 = (u : Int)) (h0 : 0 ≤ i) (h1 : i < u) (hv : m 108 i.toNat = v) (kk : Q (.inl v) (z_st m g)) : z_C 111 [.inr (.inr 100), .inl i] (z_st m g) Q := by
  rw [← hv] at kk
  exact y_111 ⟨(by unfold z_ok; omega), (fun h => absurd h (by omega)), fun _ => ⟨(by unfold z_ok2; omega), fun _ => ⟨⟨by omega, by omega⟩, kk⟩, (fun h => absurd h (by omega))⟩⟩
