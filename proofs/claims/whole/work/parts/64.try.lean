theorem c_mod {m : Nat → Nat → Int} {g : Nat × Nat × List (Nat × Nat) × Nat} {v : Int} {Q : q_V → q_S → Prop} (hp1 : 0 < m 29 0) (hp2 : m 29 0 < 2147483648) (h1 : -2147483648 ≤ v) (h2 : v < 2147483648) (k : Q (.inl (v % m 29 0)) (z_st m g)) : z_C 52 [.inr (.inr 29), .inl v] (z_st m g) Q := by
  refine z_C_wp [] 40 c_P52 ?_
  apply And.intro
  · intro h
    refine c_floorMod h1 h2 hp1 hp2 ?_
    exact k
  · intro h
    have h : ¬ ¬ q_w (m 29 0) < q_w 1 := of_decide_eq_false h
    rw [q_w_id (by omega) hp2, q_w_id (by decide) (by decide)] at h
    omega
