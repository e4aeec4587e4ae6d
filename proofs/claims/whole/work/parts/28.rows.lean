/-! SOUNDNESS, FOUR: rows read and written, their lengths; the script, PRIMES, the digits. -/
theorem q_fun_upd {f : Nat → Nat → Int} {o i : Nat} {x : Int} : (fun j => Int32.ofInt (q_upd f o i x o j)) = upd (fun j => Int32.ofInt (f o j)) i (Int32.ofInt x) := by
  funext j
  unfold q_upd upd
  by_cases h : j = i
  · simp [h]
  · simp [h]
theorem q_fun_updL {f : Nat → Nat → Int} {o i : Nat} {x : Int} : (fun j => Int64.ofInt (q_upd f o i x o j)) = vp_updL (fun j => Int64.ofInt (f o j)) i (Int64.ofInt x) := by
  funext j
  unfold q_upd vp_updL
  by_cases h : j = i
  · simp [h]
  · simp [h]
theorem q_i2b_of (x : Int) : Int32.ofInt (q_i2b x) = vp_nar .byte (Int32.ofInt x) := by
  unfold q_i2b
  rw [q_i_of, vp_nar_byte]
theorem q_rvo {G : q_G} {o : Nat} (h : o < 1000) : q_rv G o = .ref (q_base G + o) := by
  unfold q_rv q_ro q_ad
  rw [if_neg (by omega), if_neg (by omega), if_pos h]
  rfl
theorem q_Rp_upd {G : q_G} {S : q_S} {H H1 : Heap} {o i : Nat} {x : Int} (hR : q_Rp G S H) (ho : o < 1000) {sh : Nat × Nat} (hn : S.2.2.1[o]? = some sh) {E : va_E} (he : q_ce G (q_upd S.1 o i x, S.2) o sh = E) (h1 : va_P G.1 q_cls ((q_ws G S).set o (q_base G + o, E)) H1) : q_Rp G (q_upd S.1 o i x, S.2) H1 := by
  obtain ⟨-, r2, r3, r4⟩ := hR
  rw [q_ws_set (S' := (q_upd S.1 o i x, S.2)) hn rfl (fun k j hkj => ⟨if_neg (fun h => hkj h.1), rfl⟩) he] at h1
  exact ⟨h1, r2, r3, q_Ro_m r4 (fun k j hk => if_neg (fun h => by omega)) (fun k j hk => rfl)⟩
def q_kA (op b : Nat) (ins : Instr) (len : Nat) : Bool := len == 1 && (match ins with
  | .iaload => op == 28 && b == 0
  | .baload => op == 28 && b == 2
  | .iastore => op == 29 && b == 0
  | .bastore => op == 29 && b == 2
  | .laload => op == 30
  | .lastore => op == 31
  | .aaload => op == 32
  | .arraylength => op == 33
  | _ => false)
section QA
variable {p : Program} {l : Launch} {e : Env} {R : Room} {s : State} {m : MethodId} {args : Array Value} {below : List Frame} {meth : Method} {c : Code} {H : Heap} {locs : List Loc} {cells slots : Nat} {Q : State → Prop}
variable {cc : ByteArray} {bp bq : Nat} {ll : Array Slot} {G : q_G} {S : q_S} {ins : Instr} {len : Nat}
theorem q_o28 (hx : p.tables.exec = Jvm.exec) (hb : c.code = cc) (hK : q_Kn G s) (hR : q_Rp G S H) (hS : va_S (q_A G) s.heap H locs) {b : Nat} {i : Int} {o k n : Nat} (ho : q_shp S o = some (k, n)) (hc : k = b ∧ 0 ≤ i ∧ i < n) (hd : decode cc bp = .ok (ins, len)) (hk : q_kA 28 b ins len = true) (hq : bq = bp + len) {rest : List Value}
    (kk : W p l e R s m args below meth c H locs cells slots Q (F0 m bq ll (.int (Int32.ofInt (S.1 o i.toNat)) :: rest))) : W p l e R s m args below meth c H locs cells slots Q (F0 m bp ll (.int (Int32.ofInt i) :: q_rv G o :: rest)) := by
  subst hq
  obtain ⟨rfl, i0, i1⟩ := hc
  unfold q_kA at hk
  rw [Bool.and_eq_true, beq_iff_eq] at hk
  obtain ⟨rfl, hk⟩ := hk
  obtain ⟨hP, r2, r3, r4, r5, r6, r7, r8, r9⟩ := hR
  obtain ⟨k1, k2, k3, k4, k5, k6, k7, k8, k9, k10, k11, k12, k13⟩ := hK
  unfold q_shp at ho
  by_cases ho1 : o < 1000
  · rw [if_pos ho1] at ho
    obtain ⟨g1, g2⟩ := q_ix i0 i1 (r3 _ (List.mem_of_getElem? ho))
    rw [q_rvo ho1]
    rw [← g2] at kk
    split at hk <;> simp only [Bool.and_eq_true, beq_iff_eq, Bool.false_eq_true] at hk <;> first | (exact absurd hk.1 (by decide)) | skip
    · obtain ⟨-, rfl⟩ := hk
      exact va_iald (D := G.1) hx hb k1 hP o 0 (cA := q_cI G) (n := n) (q_ws_at ho) rfl g1 hd kk
    · obtain ⟨-, rfl⟩ := hk
      exact va_bald (D := G.1) hx hb k1 hP o 2 (cA := q_cB G) (n := n) (q_ws_at ho) rfl g1 hd kk
    all_goals exact absurd hk (by decide)
  · rw [if_neg ho1] at ho
    by_cases h1 : o = 1001
    · subst h1
      rw [if_pos rfl] at ho
      cases ho
      obtain ⟨g1, g2⟩ := q_ix i0 (by rw [r5] at i1; exact i1) r6
      have e : q_rv G 1001 = .ref (q_gb G) := rfl
      rw [e]
      split at hk <;> simp only [Bool.and_eq_true, beq_iff_eq, Bool.false_eq_true] at hk <;> first | (exact absurd hk.1 (by decide)) | (exact absurd hk.2 (by decide)) | (exact absurd hk (by decide)) | skip
      rw [r4 i.toNat (by rw [r5] at i1; omega), ← g2] at kk
      exact va_sld hx hb k2 (by omega) (by unfold q_A; omega) hS g1 hd kk
    · rw [if_neg h1] at ho
      by_cases h2 : o = 1002
      · subst h2
        rw [if_pos rfl] at ho
        cases ho
        obtain ⟨g1, g2⟩ := q_ix i0 i1 (by decide)
        have e : q_rv G 1002 = .ref (q_gp G) := rfl
        rw [e]
        split at hk <;> simp only [Bool.and_eq_true, beq_iff_eq, Bool.false_eq_true] at hk <;> first | (exact absurd hk.1 (by decide)) | (exact absurd hk.2 (by decide)) | (exact absurd hk (by decide)) | skip
        rw [r7 i.toNat (by omega), ← g2] at kk
        exact va_ti hx hb k4 hS g1 rfl hd kk
      · rw [if_neg h2] at ho
        by_cases h3 : o = 1003
        · subst h3
          rw [if_pos rfl] at ho
          cases ho
          obtain ⟨g1, g2⟩ := q_ix i0 i1 (by decide)
          have e : q_rv G 1003 = .ref (q_gt G) := rfl
          rw [e]
          split at hk <;> simp only [Bool.and_eq_true, beq_iff_eq, Bool.false_eq_true] at hk <;> first | (exact absurd hk.1 (by decide)) | (exact absurd hk.2 (by decide)) | (exact absurd hk (by decide)) | skip
          rw [r8 i.toNat (by omega), ← g2] at kk
          exact va_tb hx hb k5 hS g1 rfl hd kk
        · rw [if_neg h3] at ho
          by_cases h4 : o = 1004
          · subst h4
            rw [if_pos rfl] at ho
            cases ho
            obtain ⟨g1, g2⟩ := q_ix i0 i1 (by decide)
            have e : q_rv G 1004 = .ref (q_go G) := rfl
            rw [e]
            split at hk <;> simp only [Bool.and_eq_true, beq_iff_eq, Bool.false_eq_true] at hk <;> first | (exact absurd hk.1 (by decide)) | (exact absurd hk.2 (by decide)) | (exact absurd hk (by decide)) | skip
            rw [r9 i.toNat (by omega), ← g2] at kk
            exact va_tb hx hb k6 hS g1 rfl hd kk
          · rw [if_neg h4] at ho
            cases ho
theorem q_o29 (hx : p.tables.exec = Jvm.exec) (hb : c.code = cc) (hK : q_Kn G s) (hR : q_Rp G S H) (hS : va_S (q_A G) s.heap H locs) {b : Nat} {i x : Int} {o k n : Nat} (ho : S.2.2.1[o]? = some (k, n)) (hc : o < 1000 ∧ k = b ∧ 0 ≤ i ∧ i < n) (hd : decode cc bp = .ok (ins, len)) (hk : q_kA 29 b ins len = true) (hq : bq = bp + len) {rest : List Value}
    (kk : ∀ (H1 : Heap) (locs1 : List Loc), q_Rp G (q_upd S.1 o i.toNat (if b = 2 then q_i2b x else x), S.2) H1 → va_S (q_A G) s.heap H1 locs1 → W p l e R s m args below meth c H1 locs1 cells slots Q (F0 m bq ll rest)) : W p l e R s m args below meth c H locs cells slots Q (F0 m bp ll (.int (Int32.ofInt x) :: .int (Int32.ofInt i) :: q_rv G o :: rest)) := by
  subst hq
  obtain ⟨ho1, rfl, i0, i1⟩ := hc
  unfold q_kA at hk
  rw [Bool.and_eq_true, beq_iff_eq] at hk
  obtain ⟨rfl, hk⟩ := hk
  obtain ⟨g1, g2⟩ := q_ix i0 i1 (hR.2.2.1 _ (List.mem_of_getElem? ho))
  rw [q_rvo ho1]
  split at hk <;> simp only [Bool.and_eq_true, beq_iff_eq, Bool.false_eq_true] at hk <;> first | (exact absurd hk.1 (by decide)) | skip
  · obtain ⟨-, rfl⟩ := hk
    refine va_iast (D := G.1) hx hb hK.1 hR.1 q_wsD hS o 0 (cA := q_cI G) (n := n) (q_ws_at ho) rfl g1 hd (fun H1 locs1 h1 _ h3 => kk H1 locs1 ?_ h3)
    rw [if_neg (by decide)]
    refine q_Rp_upd hR ho1 ho ?_ h1
    show (Sum.inl (q_cI G, n, Sum.inl _) : va_E) = _
    rw [q_fun_upd, g2]
  · obtain ⟨-, rfl⟩ := hk
    refine va_bast (D := G.1) hx hb hK.1 hR.1 q_wsD hS o 2 (cA := q_cB G) (n := n) (q_ws_at ho) rfl g1 hd (fun H1 locs1 h1 _ h3 => kk H1 locs1 ?_ h3)
    rw [if_pos rfl]
    refine q_Rp_upd hR ho1 ho ?_ h1
    show (Sum.inl (q_cB G, n, Sum.inl _) : va_E) = _
    rw [q_fun_upd, g2, q_i2b_of]
  all_goals exact absurd hk (by decide)
theorem q_o30 (hx : p.tables.exec = Jvm.exec) (hb : c.code = cc) (hK : q_Kn G s) (hR : q_Rp G S H) {b : Nat} {i : Int} {o k n : Nat} (ho : S.2.2.1[o]? = some (k, n)) (hc : o < 1000 ∧ k = 1 ∧ 0 ≤ i ∧ i < n) (hd : decode cc bp = .ok (ins, len)) (hk : q_kA 30 b ins len = true) (hq : bq = bp + len) {rest : List Value}
    (kk : W p l e R s m args below meth c H locs cells slots Q (F0 m bq ll (.long (Int64.ofInt (S.1 o i.toNat)) :: rest))) : W p l e R s m args below meth c H locs cells slots Q (F0 m bp ll (.int (Int32.ofInt i) :: q_rv G o :: rest)) := by
  subst hq
  obtain ⟨ho1, rfl, i0, i1⟩ := hc
  unfold q_kA at hk
  rw [Bool.and_eq_true, beq_iff_eq] at hk
  obtain ⟨rfl, hk⟩ := hk
  obtain ⟨g1, g2⟩ := q_ix i0 i1 (hR.2.2.1 _ (List.mem_of_getElem? ho))
  rw [q_rvo ho1]
  rw [← g2] at kk
  split at hk <;> simp only [Bool.and_eq_true, beq_iff_eq, Bool.false_eq_true] at hk <;> first | (exact absurd hk.1 (by decide)) | (exact absurd hk (by decide)) | skip
  exact va_lald (D := G.1) hx hb hK.1 hR.1 o 1 (cA := q_cJ G) (n := n) (q_ws_at ho) rfl g1 hd kk
theorem q_o31 (hx : p.tables.exec = Jvm.exec) (hb : c.code = cc) (hK : q_Kn G s) (hR : q_Rp G S H) (hS : va_S (q_A G) s.heap H locs) {b : Nat} {i x : Int} {o k n : Nat} (ho : S.2.2.1[o]? = some (k, n)) (hc : o < 1000 ∧ k = 1 ∧ 0 ≤ i ∧ i < n) (hd : decode cc bp = .ok (ins, len)) (hk : q_kA 31 b ins len = true) (hq : bq = bp + len) {rest : List Value}
    (kk : ∀ (H1 : Heap) (locs1 : List Loc), q_Rp G (q_upd S.1 o i.toNat x, S.2) H1 → va_S (q_A G) s.heap H1 locs1 → W p l e R s m args below meth c H1 locs1 cells slots Q (F0 m bq ll rest)) : W p l e R s m args below meth c H locs cells slots Q (F0 m bp ll (.long (Int64.ofInt x) :: .int (Int32.ofInt i) :: q_rv G o :: rest)) := by
  subst hq
  obtain ⟨ho1, rfl, i0, i1⟩ := hc
  unfold q_kA at hk
  rw [Bool.and_eq_true, beq_iff_eq] at hk
  obtain ⟨rfl, hk⟩ := hk
  obtain ⟨g1, g2⟩ := q_ix i0 i1 (hR.2.2.1 _ (List.mem_of_getElem? ho))
  rw [q_rvo ho1]
  split at hk <;> simp only [Bool.and_eq_true, beq_iff_eq, Bool.false_eq_true] at hk <;> first | (exact absurd hk.1 (by decide)) | (exact absurd hk (by decide)) | skip
  refine va_last (D := G.1) hx hb hK.1 hR.1 q_wsD hS o 1 (cA := q_cJ G) (n := n) (q_ws_at ho) rfl g1 hd (fun H1 locs1 h1 _ h3 => kk H1 locs1 ?_ h3)
  refine q_Rp_upd hR ho1 ho ?_ h1
  show (Sum.inl (q_cJ G, n, Sum.inr (Sum.inl _)) : va_E) = _
  rw [q_fun_updL, g2]
theorem q_o32 (hx : p.tables.exec = Jvm.exec) (hb : c.code = cc) (hK : q_Kn G s) (hR : q_Rp G S H) {b : Nat} {i : Int} {o k n : Nat} (ho : S.2.2.1[o]? = some (k, n)) (hc : o < 1000 ∧ k = b ∧ (b = 3 ∨ b = 4) ∧ 0 ≤ i ∧ i < n ∧ S.2.1 o i.toNat < 1000) (hd : decode cc bp = .ok (ins, len)) (hk : q_kA 32 b ins len = true) (hq : bq = bp + len) {rest : List Value}
    (kk : W p l e R s m args below meth c H locs cells slots Q (F0 m bq ll (q_rv G (S.2.1 o i.toNat) :: rest))) : W p l e R s m args below meth c H locs cells slots Q (F0 m bp ll (.int (Int32.ofInt i) :: q_rv G o :: rest)) := by
  subst hq
  obtain ⟨ho1, rfl, hb34, i0, i1, hv⟩ := hc
  unfold q_kA at hk
  rw [Bool.and_eq_true, beq_iff_eq] at hk
  obtain ⟨rfl, hk⟩ := hk
  obtain ⟨g1, g2⟩ := q_ix i0 i1 (hR.2.2.1 _ (List.mem_of_getElem? ho))
  rw [q_rvo ho1]
  have er : q_rv G (S.2.1 o i.toNat) = va_rf (q_ro G (S.2.1 o (Int32.ofInt i).toNatClampNeg)) := by
    rw [g2]
    unfold q_rv
    rw [if_neg (by omega)]
  rw [er] at kk
  split at hk <;> simp only [Bool.and_eq_true, beq_iff_eq, Bool.false_eq_true] at hk <;> first | (exact absurd hk.1 (by decide)) | (exact absurd hk (by decide)) | skip
  have hlt : (Int32.ofInt i).toNatClampNeg < n := by rw [g2]; omega
  have hcell := hR.1 o _ (q_ws_at ho)
  rcases hb34 with rfl | rfl
  · exact W.aald (v := va_rf (q_ro G (S.2.1 o (Int32.ofInt i).toNatClampNeg))) (ty := .array .int) hx hb hcell ((hK.1.2 3 _ rfl).1 n (fun j => va_rf (q_ro G (S.2.1 o j)))) rfl (fun q => by cases q) (by show ¬ (_ < 0 ∨ (arrV _ _ _).slots.size ≤ _); rw [arrV_size]; exact g1) (by show (arrV _ _ _).slots[_]? = _; rw [arrV_read _ _ hlt]) rfl rfl hd kk
  · exact W.aald (v := va_rf (q_ro G (S.2.1 o (Int32.ofInt i).toNatClampNeg))) (ty := .array .long) hx hb hcell ((hK.1.2 4 _ rfl).1 n (fun j => va_rf (q_ro G (S.2.1 o j)))) rfl (fun q => by cases q) (by show ¬ (_ < 0 ∨ (arrV _ _ _).slots.size ≤ _); rw [arrV_size]; exact g1) (by show (arrV _ _ _).slots[_]? = _; rw [arrV_read _ _ hlt]) rfl rfl hd kk
theorem q_o33 (hx : p.tables.exec = Jvm.exec) (hb : c.code = cc) (hK : q_Kn G s) (hR : q_Rp G S H) (hS : va_S (q_A G) s.heap H locs) {b : Nat} {o k n : Nat} (ho : q_shp S o = some (k, n)) (hc : k < 5) (hd : decode cc bp = .ok (ins, len)) (hk : q_kA 33 b ins len = true) (hq : bq = bp + len) {rest : List Value}
    (kk : W p l e R s m args below meth c H locs cells slots Q (F0 m bq ll (.int (Int32.ofInt (n : Int)) :: rest))) : W p l e R s m args below meth c H locs cells slots Q (F0 m bp ll (q_rv G o :: rest)) := by
  subst hq
  unfold q_kA at hk
  rw [Bool.and_eq_true, beq_iff_eq] at hk
  obtain ⟨rfl, hk⟩ := hk
  obtain ⟨hP, r2, r3, r4, r5, r6, r7, r8, r9⟩ := hR
  obtain ⟨k1, k2, k3, k4, k5, k6, k7, k8, k9, k10, k11, k12, k13⟩ := hK
  split at hk <;> simp only [Bool.and_eq_true, beq_iff_eq, Bool.false_eq_true] at hk <;> first | (exact absurd hk.1 (by decide)) | (exact absurd hk (by decide)) | skip
  have ei : Int32.ofNat n = Int32.ofInt (n : Int) := by simp [Int32.ofInt_eq_ofNat]
  unfold q_shp at ho
  by_cases ho1 : o < 1000
  · rw [if_pos ho1] at ho
    rw [q_rvo ho1]
    match k, hc with
    | 0, _ => exact va_alen (D := G.1) hx hb k1 hP o 0 (cA := q_cI G) (x := (n, _)) (q_ws_at ho) rfl ei hd kk
    | 1, _ => exact va_alen (D := G.1) hx hb k1 hP o 1 (cA := q_cJ G) (x := (n, _)) (q_ws_at ho) rfl ei hd kk
    | 2, _ => exact va_alen (D := G.1) hx hb k1 hP o 2 (cA := q_cB G) (x := (n, _)) (q_ws_at ho) rfl ei hd kk
    | 3, _ => exact va_alen (D := G.1) hx hb k1 hP o 3 (cA := q_cII G) (x := (n, _)) (q_ws_at ho) rfl ei hd kk
    | 4, _ => exact va_alen (D := G.1) hx hb k1 hP o 4 (cA := q_cJJ G) (x := (n, _)) (q_ws_at ho) rfl ei hd kk
  · rw [if_neg ho1] at ho
    by_cases h1 : o = 1001
    · subst h1
      rw [if_pos rfl] at ho
      cases ho
      have e : q_rv G 1001 = .ref (q_gb G) := rfl
      rw [e]
      rw [r5] at ei kk
      rw [← ei] at kk
      exact va_slen hx hb k2 (by omega) (by unfold q_A; omega) hS hd kk
    · rw [if_neg h1] at ho
      by_cases h2 : o = 1002
      · subst h2
        rw [if_pos rfl] at ho
        cases ho
        have e : q_rv G 1002 = .ref (q_gp G) := rfl
        rw [e]
        exact va_tlen hx hb k4 hS ei hd kk
      · rw [if_neg h2] at ho
        by_cases h3 : o = 1003
        · subst h3
          rw [if_pos rfl] at ho
          cases ho
          have e : q_rv G 1003 = .ref (q_gt G) := rfl
          rw [e]
          exact va_tlen hx hb k5 hS ei hd kk
        · rw [if_neg h3] at ho
          by_cases h4 : o = 1004
          · subst h4
            rw [if_pos rfl] at ho
            cases ho
            have e : q_rv G 1004 = .ref (q_go G) := rfl
            rw [e]
            exact va_tlen hx hb k6 hS ei hd kk
          · rw [if_neg h4] at ho
            cases ho
end QA
