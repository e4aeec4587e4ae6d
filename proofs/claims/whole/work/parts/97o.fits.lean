/-! PAIRS: fits -/
def s_see (m : z_M) (p : Int) (N : Nat → Int) : Prop := ∀ i : Nat, (i : Int) < m 1 8 → v_at p N (m 13 i % p) = m 14 i % p
theorem c_seesAll {m : z_M} {g : z_g} {Q : q_V → q_S → Prop} {p : Int} {S : Nat} {N : Nat → Int} (hV : i_V m) (h6 : x_many S ≤ 6) (hT : t_TT m p S N) (hN : x_N p S N) (k1 : s_see m p N → Q (.inl 1) (z_st m g)) (k0 : ¬ s_see m p N → Q (.inl 0) (z_st m g)) : z_C 138 [.inr (.inr 0)] (z_st m g) Q := by
  have hp := hT.1.1
  have hp5 := z_pr_le hp
  have v8 := hV.2.2.2.1
  have loop : ∀ (d k : Nat) (ki : Int), (m 1 8).toNat - k = d → ki = (k : Int) → k ≤ (m 1 8).toNat → (∀ i, i < k → v_at p N (m 13 i % p) = m 14 i % p) → z_T 138 2 [.inr (.inr 0), .inl ki] [] (z_st m g) Q := by
    intro d
    induction d with
    | zero => exact fun k ki hd hki hkn q => y_138_2 ⟨(by unfold z_ok2; omega), fun _ => k1 (fun i hi => q i (by omega)), (fun h => absurd h (by omega))⟩
    | succ d ih =>
      intro k ki hd hki hkn q
      have hs := hV.2.2.2.2.2.2 k (by omega)
      have ek : ki.toNat = k := by omega
      have h1 := z_m0 (p := p) (a := m 13 k) (by omega)
      have h2 := z_m0 (p := p) (a := m 14 k) (by omega)
      have h3 := v_at_rng (N := N) (x := m 13 k % p) hp
      refine y_138_2 ⟨(by unfold z_ok2; omega), (fun h => absurd h (by omega)), fun _ => ⟨⟨by omega, by omega⟩, ?_⟩⟩
      rw [ek]
      refine c_mod' hp hT.1.2.1 (by unfold z_ok; omega) (y_138_17 (c_valueAt h6 hT hN h1.1 h1.2 (y_138_18 ⟨⟨by omega, by omega⟩, ?_⟩)))
      rw [ek]
      refine c_mod' hp hT.1.2.1 (by unfold z_ok; omega) (y_138_26 ⟨(by unfold z_ok2; omega), fun h => ih (k + 1) (ki + 1) (by omega) (by omega) (by omega) (fun i hi => ?_), fun h => k0 (fun hh => h (hh k (by omega)))⟩)
      by_cases hik : i = k
      · rw [hik]; exact h
      · exact q i (by omega)
  exact y_138 (loop (m 1 8).toNat 0 0 (by omega) rfl (by omega) (fun i hi => absurd hi (by omega)))
theorem n_seesAll {m m1 : z_M} {g : z_g} {Q : q_V → q_S → Prop} {p : Int} {N : Nat → Int} (hV : i_V m) (hP : n_P m1 p) (hR : t_R m1 138 N) (hN : x_R p N) (e8 : m1 131 28 = m 1 8) (e1 : ∀ i, i < 4 → m1 151 i = m 13 i ∧ m1 152 i = m 14 i) (k1 : s_see m p N → Q (.inl 1) (z_st m1 g)) (k0 : ¬ s_see m p N → Q (.inl 0) (z_st m1 g)) : z_C 266 [.inr (.inr 131)] (z_st m1 g) Q := by
  have hp := hP.1
  have hp5 := z_pr_le hp
  have v8 := hV.2.2.2.1
  have loop : ∀ (d k : Nat) (ki a : Int), (m 1 8).toNat - k = d → ki = (k : Int) → k ≤ (m 1 8).toNat → ((a = 1 ∧ ∀ i, i < k → v_at p N (m 13 i % p) = m 14 i % p) ∨ (a = 0 ∧ ¬ s_see m p N)) → z_T 266 4 [.inr (.inr 131), .inl a, .inl ki] [] (z_st m1 g) Q := by
    intro d
    induction d with
    | zero =>
      intro k ki a hd hki hkn q
      refine y_266_4 ?_
      rw [e8]
      refine ⟨(by unfold z_ok2; omega), fun _ => ⟨by omega, ?_⟩, (fun h => absurd h (by omega))⟩
      rcases q with ⟨q1, q2⟩ | ⟨q1, q2⟩
      · rw [q1]; exact k1 (fun i hi => q2 i (by omega))
      · rw [q1]; exact k0 q2
    | succ d ih =>
      intro k ki a hd hki hkn q
      have hs := hV.2.2.2.2.2.2 k (by omega)
      have ek : ki.toNat = k := by omega
      have h1 := z_m0 (p := p) (a := m 13 k) (by omega)
      have h2 := z_m0 (p := p) (a := m 14 k) (by omega)
      have h3 := v_at_rng (N := N) (x := m 13 k % p) hp
      refine y_266_4 ?_
      rw [e8]
      refine ⟨(by unfold z_ok2; omega), (fun h => absurd h (by omega)), fun _ => ⟨⟨by omega, by omega⟩, ?_⟩⟩
      rw [ek, (e1 k (by omega)).1]
      refine n_rest hP (by unfold z_ok; omega) (y_266_16 (n_valueAt hP hR hN h1.1 h1.2 (y_266_17 ⟨⟨by omega, by omega⟩, ?_⟩)))
      rw [ek, (e1 k (by omega)).2]
      refine n_rest hP (by unfold z_ok; omega) (y_266_23 ⟨(by unfold z_ok2; omega), fun h => ih (k + 1) (ki + 1) _ (by omega) (by omega) (by omega) (Or.inr ⟨?_, fun hh => h (hh k (by omega))⟩), fun h => ih (k + 1) (ki + 1) _ (by omega) (by omega) (by omega) ?_⟩)
      · rcases q with ⟨q1, q2⟩ | ⟨q1, q2⟩
        · rw [q1]; decide
        · rw [q1]; decide
      · rcases q with ⟨q1, q2⟩ | ⟨q1, q2⟩
        · refine Or.inl ⟨by rw [q1]; decide, fun i hi => ?_⟩
          by_cases hik : i = k
          · rw [hik]; exact h
          · exact q2 i (by omega)
        · exact Or.inr ⟨by rw [q1]; decide, q2⟩
  exact y_266 (loop (m 1 8).toNat 0 0 1 (by omega) rfl (by omega) (Or.inl ⟨rfl, fun i hi => absurd hi (by omega)⟩))
/-- how many, and the least -/
def z_cn (P : Nat → Prop) (lo hi : Nat) (c a : Int) : Prop := ∃ l : List Nat, c = (l.length : Int) ∧ (∀ i, i ∈ l ↔ lo ≤ i ∧ i < hi ∧ P i) ∧ l.Pairwise (· < ·) ∧ ((l = [] ∧ a = -5) ∨ ∃ i l', l = i :: l' ∧ a = (i : Int))
theorem z_cn_0 {P : Nat → Prop} {lo : Nat} : z_cn P lo lo 0 (-5) := ⟨[], rfl, fun i => ⟨fun h => absurd h (List.not_mem_nil), fun h => absurd h (by omega)⟩, List.Pairwise.nil, Or.inl ⟨rfl, rfl⟩⟩
theorem z_cn_up {P : Nat → Prop} {lo hi : Nat} {c a : Int} (h : z_cn P lo hi c a) (hlo : lo ≤ hi) (hP : P hi) : z_cn P lo (hi + 1) (c + 1) (if c = 0 then (hi : Int) else a) := by
  obtain ⟨l, h1, h2, h3, h4⟩ := h
  refine ⟨l ++ [hi], by rw [h1, List.length_append]; rfl, fun i => ?_, ?_, ?_⟩
  · rw [List.mem_append, h2, List.mem_singleton]
    constructor
    · rintro (⟨q1, q2, q3⟩ | q)
      · exact ⟨q1, by omega, q3⟩
      · rw [q]; exact ⟨hlo, by omega, hP⟩
    · rintro ⟨q1, q2, q3⟩
      by_cases hi' : i = hi
      · exact Or.inr hi'
      · exact Or.inl ⟨q1, by omega, q3⟩
  · refine List.pairwise_append.2 ⟨h3, List.pairwise_singleton _ _, fun x hx y hy => ?_⟩
    rw [List.mem_singleton] at hy
    have := (h2 x).1 hx
    omega
  · rcases h4 with ⟨q1, q2⟩ | ⟨i, l', q1, q2⟩
    · subst q1
      rw [if_pos (by rw [h1]; rfl)]
      exact Or.inr ⟨hi, [], rfl, rfl⟩
    · subst q1
      rw [if_neg (by rw [h1, List.length_cons]; omega)]
      exact Or.inr ⟨i, l' ++ [hi], rfl, q2⟩
theorem z_cn_up' {P : Nat → Prop} {lo hi : Nat} {c a : Int} (h : z_cn P lo hi c a) (hP : ¬ P hi) : z_cn P lo (hi + 1) c a := by
  obtain ⟨l, h1, h2, h3, h4⟩ := h
  refine ⟨l, h1, fun i => (h2 i).trans ⟨fun q => ⟨q.1, by omega, q.2.2⟩, fun q => ⟨q.1, ?_, q.2.2⟩⟩, h3, h4⟩
  by_cases hi' : i = hi
  · subst hi'; exact absurd q.2.2 hP
  · omega
theorem z_cn_dn {P : Nat → Prop} {lo hi : Nat} {c a : Int} (h : z_cn P (lo + 1) hi c a) (hlo : lo < hi) (hP : P lo) : z_cn P lo hi (c + 1) (lo : Int) := by
  obtain ⟨l, h1, h2, h3, h4⟩ := h
  refine ⟨lo :: l, by rw [h1, List.length_cons]; rfl, fun i => ?_, ?_, Or.inr ⟨lo, l, rfl, rfl⟩⟩
  · rw [List.mem_cons, h2]
    constructor
    · rintro (q | ⟨q1, q2, q3⟩)
      · rw [q]; exact ⟨by omega, hlo, hP⟩
      · exact ⟨by omega, q2, q3⟩
    · rintro ⟨q1, q2, q3⟩
      by_cases hi' : i = lo
      · exact Or.inl hi'
      · exact Or.inr ⟨by omega, q2, q3⟩
  · exact List.pairwise_cons.2 ⟨fun x hx => by have := (h2 x).1 hx; omega, h3⟩
theorem z_cn_dn' {P : Nat → Prop} {lo hi : Nat} {c a : Int} (h : z_cn P (lo + 1) hi c a) (hP : ¬ P lo) : z_cn P lo hi c a := by
  obtain ⟨l, h1, h2, h3, h4⟩ := h
  refine ⟨l, h1, fun i => (h2 i).trans ⟨fun q => ⟨by omega, q.2.1, q.2.2⟩, fun q => ⟨?_, q.2.1, q.2.2⟩⟩, h3, h4⟩
  by_cases hi' : i = lo
  · subst hi'; exact absurd q.2.2 hP
  · omega
theorem z_pw_uni : ∀ (l l' : List Nat), l.Pairwise (· < ·) → l'.Pairwise (· < ·) → (∀ i, i ∈ l ↔ i ∈ l') → l = l'
  | [], [], _, _, _ => rfl
  | [], b :: l', _, _, h => absurd ((h b).2 List.mem_cons_self) List.not_mem_nil
  | a :: l, [], _, _, h => absurd ((h a).1 List.mem_cons_self) List.not_mem_nil
  | a :: l, b :: l', h1, h2, h => by
    have p1 := List.pairwise_cons.1 h1
    have p2 := List.pairwise_cons.1 h2
    have hab : a = b := by
      have q1 := (h a).1 List.mem_cons_self
      have q2 := (h b).2 List.mem_cons_self
      rw [List.mem_cons] at q1 q2
      rcases q1 with q1 | q1
      · exact q1
      · rcases q2 with q2 | q2
        · exact q2.symm
        · have := p2.1 a q1
          have := p1.1 b q2
          omega
    subst hab
    rw [z_pw_uni l l' p1.2 p2.2 (fun i => ?_)]
    constructor
    · intro hi
      have := (h i).1 (List.mem_cons_of_mem _ hi)
      rw [List.mem_cons] at this
      rcases this with q | q
      · have := p1.1 i hi; omega
      · exact q
    · intro hi
      have := (h i).2 (List.mem_cons_of_mem _ hi)
      rw [List.mem_cons] at this
      rcases this with q | q
      · have := p2.1 i hi; omega
      · exact q
theorem z_cn_uni {P : Nat → Prop} {lo hi : Nat} {c a c' a' : Int} (h : z_cn P lo hi c a) (h' : z_cn P lo hi c' a') : c = c' ∧ a = a' := by
  obtain ⟨l, h1, h2, h3, h4⟩ := h
  obtain ⟨l', h1', h2', h3', h4'⟩ := h'
  have e := z_pw_uni l l' h3 h3' (fun i => (h2 i).trans (h2' i).symm)
  subst e
  refine ⟨by rw [h1, h1'], ?_⟩
  rcases h4 with ⟨q1, q2⟩ | ⟨i, l2, q1, q2⟩
  · rcases h4' with ⟨q1', q2'⟩ | ⟨i', l2', q1', q2'⟩
    · rw [q2, q2']
    · rw [q1] at q1'; cases q1'
  · rcases h4' with ⟨q1', q2'⟩ | ⟨i', l2', q1', q2'⟩
    · rw [q1] at q1'; cases q1'
    · rw [q1] at q1'
      cases q1'
      rw [q2, q2']
