/-! THE LAW'S RUN -/
theorem l_cases {L : Nat} : ∀ k, k < 38 → z_case (I L) L k := by
  have hI : ∀ m g, I L m g → g.1 = L := fun m g h => h.1.1
  have hs : ∀ m g, I L m g → ∀ j, z_ok (m 1001 j) := fun m g h => h.2.1
  intro k hk
  match k, hk with
  | 0, _ => exact l_case0 hI hs (fun m g a0 h h0 => p_prime h h0)
  | 1, _ => exact l_case1 hI hs (fun m g a0 h h0 => p_support h h0)
  | 2, _ => exact l_case2 hI hs (fun m g a0 a1 h h0 h1 => p_ofU h h0 h1)
  | 3, _ => exact l_case3 hI hs (fun m g a0 a1 a2 h h0 h1 h2 => p_relation h h0 h1 h2)
  | 4, _ => exact l_case4 hI hs (fun m g a0 a1 a2 h h0 h1 h2 => p_sum h h0 h1 h2)
  | 5, _ => exact l_case5 hI hs (fun m g a0 a1 a2 h h0 h1 h2 => p_number h h0 h1 h2)
  | 6, _ => exact l_case6 hI hs (fun m g a0 a1 a2 h h0 h1 h2 => p_turn h h0 h1 h2)
  | 7, _ => exact l_case7 hI hs (fun m g a0 a1 h h0 h1 => p_ofSum h h0 h1)
  | 8, _ => exact l_case8 hI hs (fun m g a0 a1 a2 h h0 h1 h2 => p_at h h0 h1 h2)
  | 9, _ => exact l_case9 hI hs (fun m g a0 a1 a2 h h0 h1 h2 => p_value h h0 h1 h2)
  | 10, _ => exact l_case10 hI hs (fun m g a0 a1 h h0 h1 => p_common h h0 h1)
  | 11, _ => exact l_case11 hI hs (fun m g a0 a1 a2 h h0 h1 h2 => p_row h h0 h1 h2)
  | 12, _ => exact l_case12 hI hs (fun m g a0 h h0 => p_resultant h h0)
  | 13, _ => exact l_case13 hI hs (fun m g a0 a1 a2 h h0 h1 h2 => p_formed h h0 h1 h2)
  | 14, _ => exact l_case14 hI hs (fun m g a0 a1 h h0 h1 => p_isFormed h h0 h1)
  | 15, _ => exact l_case15 hI hs (fun m g a0 a1 a2 h h0 h1 h2 => p_by h h0 h1 h2)
  | 16, _ => exact l_case16 hI hs (fun m g a0 a1 h h0 h1 => p_tried h h0 h1)
  | 17, _ => exact l_case17 hI hs (fun m g a0 a1 h h0 h1 => p_reason h h0 h1)
  | 18, _ => exact l_case18 hI hs (fun m g a0 h h0 => p_turned h h0)
  | 19, _ => exact l_case19 hI hs (fun m g a0 a1 h h0 h1 => p_times h h0 h1)
  | 20, _ => exact l_case20 hI hs (fun m g a0 a1 h h0 h1 => p_all h h0 h1)
  | 21, _ => exact l_case21 hI hs (fun m g a0 h h0 => p_three h h0)
  | 22, _ => exact l_case22 hI hs (fun m g a0 a1 a2 h h0 h1 h2 => p_chance h h0 h1 h2)
  | 23, _ => exact l_case23 hI hs (fun m g a0 a1 h h0 h1 => p_see h h0 h1)
  | 24, _ => exact l_case24 hI hs (fun m g a0 a1 a2 h h0 h1 h2 => p_fits h h0 h1 h2)
  | 25, _ => exact l_case25 hI hs (fun m g a0 a1 a2 h h0 h1 h2 => p_lots h h0 h1)
  | 26, _ => exact l_case26 hI hs (fun m g a0 h h0 => p_feed h h0)
  | 27, _ => exact l_case27 hI hs (fun m g h => p_read h)
  | 28, _ => exact l_case28 hI hs (fun m g a0 h h0 => p_write h h0)
  | 29, _ => exact l_case29 hI hs (fun m g a0 h h0 => p_paper h h0)
  | 30, _ => exact l_case30 hI hs (fun m g h => p_back h)
  | 31, _ => exact l_case31 hI hs (fun m g a0 a1 h h0 h1 => p_list h h0 h1)
  | 32, _ => exact l_case32 hI hs (fun m g a0 a1 a2 a3 h h0 h1 => p_put h h0 h1 (q_lbin_rng 4 (Or.inl rfl) a2 a3))
  | 33, _ => exact l_case33 hI hs (fun m g a0 a1 h h0 h1 => p_get h h0 h1)
  | 34, _ => exact l_case34 hI hs (fun m g a0 a1 a2 a3 a4 h h0 h1 h2 h3 h4 => p_copy h h0 h1 h2 h3 h4)
  | 35, _ => exact l_case35 hI hs (fun m g h => p_image h)
  | 36, _ => exact l_case36 hI hs (fun m g h => p_restore h)
  | 37, _ => exact l_case37 hI hs (fun m g a0 h h0 => p_count h h0)
  | n + 38, h => exact absurd h (by omega)
theorem q_run_ok (L : Nat) (xs : Nat → Int32) (hL : L ≤ 3072) : ∃ n S', q_run q_P n 296 0 q_ls0 [] (q_S0 L xs) = some (.inl 1, S') ∧ S'.2.2.1.length ≤ 600000 ∧ S'.2.2.2 ≤ 7302250 := by
  have hroom : ∀ m g, I L m g → g.1 = L ∧ (q_sh0 ++ g.2.2.1).length ≤ 600000 ∧ g.2.2.2 ≤ 7302250 := fun m g h => by
    obtain ⟨e1, h | h | h⟩ := h.1
    · obtain ⟨-, h2, h3⟩ := h
      rw [List.length_append, j_sh0, h2]
      exact ⟨e1, by decide, by omega⟩
    · obtain ⟨-, h2, h3⟩ := h
      rw [List.length_append, j_sh0, h2]
      exact ⟨e1, by decide, by omega⟩
    · obtain ⟨-, h2, h3⟩ := h
      rw [List.length_append, j_sh0, h2]
      exact ⟨e1, by decide, by omega⟩
  have hloop := l_loop (I := I L) hL hroom l_cases (L + 6) 0 _ _ (by omega) (by omega) (e_first (L := L) (xs := xs))
  have hst : z_st (e_M e_AM (q_S0 L xs).1) (L, 126, [], 2981) = (e_M e_AM (q_S0 L xs).1, e_R e_AR (q_S0 L xs).2.1, e_H 165, 2981) := by
    rw [e_rf]
    unfold z_st e_H
    rw [List.take_of_length_le (by rw [j_sh0]; decide)]
    dsimp only
    rw [List.append_nil]
  rw [hst] at hloop
  obtain ⟨n, r, S', h1, h2, h3, h4⟩ := e_law hloop
  subst h2
  exact ⟨n, S', h1, h3, h4⟩
theorem whole_start {p : Program} {e : Env} {s : State} {m : MethodId} {below : List Frame} {meth : Method} {c : Code} (l : Launch) (hflags : l.flags = flags0) {b L : Nat} {xs : Nat → Int32} (hL : L ≤ 3072) (C0 : lw_At p s m meth c b L xs) : W p l e room_1 s m #[Value.ref b] below meth c s.heap [] 0 0 (lw_Z below #[Value.ref b] s) (entryFrame m ([Value.ref b] : List Value).toArray 4) := q_whole l hL C0 (q_run_ok L xs hL)
