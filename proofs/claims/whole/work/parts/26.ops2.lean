/-! SOUNDNESS, TWO: arithmetic, jumps, switches. -/
theorem q_i_add (x y : Int) : Int32.ofInt (x + y) = Int32.ofInt x + Int32.ofInt y := Int32.ofInt_add ..
theorem q_i_of (x : Int32) : Int32.ofInt x.toInt = x := by simp
theorem q_l_of (x : Int64) : Int64.ofInt x.toInt = x := by simp
theorem q_w0 {y : Int} (h : ¬ q_w y = 0) : ¬ Int32.ofInt y = 0 := fun e => h (by unfold q_w; rw [e]; rfl)
theorem q_wl0 {y : Int} (h : ¬ q_wl y = 0) : ¬ Int64.ofInt y = 0 := fun e => h (by unfold q_wl; rw [e]; rfl)
section QO2
variable {p : Program} {l : Launch} {e : Env} {R : Room} {s : State} {m : MethodId} {args : Array Value} {below : List Frame} {meth : Method} {c : Code} {H : Heap} {locs : List Loc} {cells slots : Nat} {Q : State → Prop}
variable {cc : ByteArray} {bp bq : Nat} {ll : Array Slot} {G : q_G} {ls : List q_V} {st : List q_V} {ins : Instr} {len : Nat}
theorem q_o8 (hx : p.tables.exec = Jvm.exec) (hb : c.code = cc) {a : Nat} {x y : Int} (hne : ¬ ((a = 9 ∨ a = 10) ∧ q_w y = 0)) (hd : decode cc bp = .ok (ins, len)) (hk : q_k8 a ins len = true) (hq : bq = bp + len) {rest : List Value}
    (kk : W p l e R s m args below meth c H locs cells slots Q (F0 m bq ll (.int (Int32.ofInt (q_bin a x y)) :: rest))) : W p l e R s m args below meth c H locs cells slots Q (F0 m bp ll (.int (Int32.ofInt y) :: .int (Int32.ofInt x) :: rest)) := by
  subst hq
  unfold q_k8 at hk
  rw [Bool.and_eq_true, beq_iff_eq] at hk
  obtain ⟨rfl, hk⟩ := hk
  split at hk <;> simp only [beq_iff_eq, Bool.false_eq_true] at hk <;> subst hk
  · exact lv_iadd hx hb hd (by rw [← q_i_add]; exact kk)
  · exact lv_isub hx hb hd (by rw [← Int32.ofInt_sub]; exact kk)
  · exact lv_imul hx hb hd (by rw [← Int32.ofInt_mul]; exact kk)
  · exact lv_iand hx hb hd (by simpa only [q_bin, q_i_of] using kk)
  · exact lv_ior hx hb hd (by simpa only [q_bin, q_i_of] using kk)
  · exact lv_ixor hx hb hd (by simpa only [q_bin, q_i_of] using kk)
  · exact lv_ishl hx hb hd (by simpa only [q_bin, q_i_of] using kk)
  · exact lv_ishr hx hb hd (by simpa only [q_bin, q_i_of] using kk)
  · exact lv_iushr hx hb hd rfl (by simpa only [q_bin, q_i_of] using kk)
  · exact lv_idiv hx hb hd (q_w0 fun h => hne ⟨Or.inl rfl, h⟩) (by simpa only [q_bin, q_i_of] using kk)
  · exact lv_irem hx hb hd (q_w0 fun h => hne ⟨Or.inr rfl, h⟩) (by simpa only [q_bin, q_i_of] using kk)
theorem q_o10 (hx : p.tables.exec = Jvm.exec) (hb : c.code = cc) {a : Nat} {x y : Int} (hne : ¬ ((a = 9 ∨ a = 10) ∧ q_wl y = 0)) (hd : decode cc bp = .ok (ins, len)) (hk : q_k10 a ins len = true) (hq : bq = bp + len) {rest : List Value}
    (kk : W p l e R s m args below meth c H locs cells slots Q (F0 m bq ll (.long (Int64.ofInt (q_lbin a x y)) :: rest))) : W p l e R s m args below meth c H locs cells slots Q (F0 m bp ll (.long (Int64.ofInt y) :: .long (Int64.ofInt x) :: rest)) := by
  subst hq
  unfold q_k10 at hk
  rw [Bool.and_eq_true, beq_iff_eq] at hk
  obtain ⟨rfl, hk⟩ := hk
  split at hk <;> simp only [beq_iff_eq, Bool.false_eq_true] at hk <;> subst hk
  · exact lv_ladd hx hb hd (by rw [← Int64.ofInt_add]; exact kk)
  · exact lv_lsub hx hb hd (by rw [← Int64.ofInt_sub]; exact kk)
  · exact lv_lmul hx hb hd (by rw [← Int64.ofInt_mul]; exact kk)
  · exact lv_land hx hb hd (by simpa only [q_lbin, q_l_of] using kk)
  · exact lv_lor hx hb hd (by simpa only [q_lbin, q_l_of] using kk)
  · exact lv_lxor hx hb hd (by simpa only [q_lbin, q_l_of] using kk)
  · exact lv_ldiv hx hb hd (q_wl0 fun h => hne ⟨Or.inl rfl, h⟩) (by simpa only [q_lbin, q_l_of] using kk)
  · exact lv_lrem hx hb hd (q_wl0 fun h => hne ⟨Or.inr rfl, h⟩) (by simpa only [q_lbin, q_l_of] using kk)
theorem q_lcmp {x y : Int} : lg_cmp (Int64.ofInt x) (Int64.ofInt y) = Int32.ofInt (if q_wl x < q_wl y then -1 else if q_wl x = q_wl y then 0 else 1) := by
  unfold lg_cmp q_wl
  simp only [Int64.lt_iff_toInt_lt]
  have h : Int64.ofInt x = Int64.ofInt y ↔ (Int64.ofInt x).toInt = (Int64.ofInt y).toInt := Int64.toInt_inj.symm
  repeat' split
  all_goals first | rfl | omega | (simp_all; done) | (simp_all; omega)
theorem q_oS (hx : p.tables.exec = Jvm.exec) (hb : c.code = cc) (hG : q_gok G) {op : Nat} (hd : decode cc bp = .ok (ins, len)) (hk : q_kS op ins len = true) (hq : bq = bp + len) {st2 : List q_V}
    (hs : (∃ x r, op = 9 ∧ st = .inl x :: r ∧ st2 = .inl (-x) :: r) ∨ (∃ x y r, op = 11 ∧ st = .inl y :: .inr (.inl x) :: r ∧ st2 = .inr (.inl (q_lshl x y)) :: r) ∨ (∃ x y r, op = 12 ∧ st = .inr (.inl y) :: .inr (.inl x) :: r ∧ st2 = .inl (if q_wl x < q_wl y then -1 else if q_wl x = q_wl y then 0 else 1) :: r) ∨
      (∃ x r, op = 13 ∧ st = .inl x :: r ∧ st2 = .inr (.inl (q_w x)) :: r) ∨ (∃ x r, op = 14 ∧ st = .inr (.inl x) :: r ∧ st2 = .inl x :: r) ∨ (∃ x r, op = 15 ∧ st = .inl x :: r ∧ st2 = .inl (q_i2b x) :: r) ∨ (∃ x r, op = 16 ∧ st = .inl x :: r ∧ st2 = .inl (q_i2c x) :: r) ∨
      (∃ v r, op = 21 ∧ q_cat v = 1 ∧ st = v :: r ∧ st2 = v :: v :: r) ∨ (∃ v r, op = 22 ∧ q_cat v = 1 ∧ st = v :: r ∧ st2 = r) ∨ (∃ v w r, op = 23 ∧ q_cat v = 1 ∧ q_cat w = 1 ∧ st = v :: w :: r ∧ st2 = v :: w :: v :: r))
    (kk : W p l e R s m args below meth c H locs cells slots Q (F0 m bq ll (st2.map (q_cv G)))) : W p l e R s m args below meth c H locs cells slots Q (F0 m bp ll (st.map (q_cv G))) := by
  subst hq
  unfold q_kS at hk
  rw [Bool.and_eq_true, beq_iff_eq] at hk
  obtain ⟨rfl, hk⟩ := hk
  rcases hs with ⟨x, r, rfl, rfl, rfl⟩ | ⟨x, y, r, rfl, rfl, rfl⟩ | ⟨x, y, r, rfl, rfl, rfl⟩ | ⟨x, r, rfl, rfl, rfl⟩ | ⟨x, r, rfl, rfl, rfl⟩ | ⟨x, r, rfl, rfl, rfl⟩ | ⟨x, r, rfl, rfl, rfl⟩ | ⟨v, r, rfl, h1, rfl, rfl⟩ | ⟨v, r, rfl, h1, rfl, rfl⟩ | ⟨v, w, r, rfl, h1, h2, rfl, rfl⟩ <;> split at hk <;> first | (exact absurd hk (by decide)) | skip
  · refine lv_ineg hx hb hd ?_
    rw [← Int32.ofInt_neg]
    exact kk
  · refine lv_lshl hx hb hd rfl ?_
    have kk : W p l e R s m args below meth c H locs cells slots Q (F0 m (bp + 1) ll (.long (Int64.ofInt (q_lshl x y)) :: r.map (q_cv G))) := kk
    unfold q_lshl at kk
    rw [q_l_of] at kk
    exact kk
  · refine W.lcmp hx hb hd ?_
    rw [q_lcmp]
    exact kk
  · refine lv_i2l hx hb hd rfl ?_
    have kk : W p l e R s m args below meth c H locs cells slots Q (F0 m (bp + 1) ll (.long (Int64.ofInt (Int32.ofInt x).toInt) :: r.map (q_cv G))) := kk
    have e : Int64.ofInt (Int32.ofInt x).toInt = (Int32.ofInt x).toInt64 := by
      have h1 := Int32.le_toInt (Int32.ofInt x)
      have h2 := Int32.toInt_lt (Int32.ofInt x)
      apply Int64.toInt_inj.mp
      rw [Int32.toInt_toInt64, Int64.toInt_ofInt_of_le (by omega) (by omega)]
    rw [e] at kk
    exact kk
  · refine lv_l2i hx hb hd rfl ?_
    have e : (Int64.ofInt x).toInt32 = Int32.ofInt x := by simp
    rw [e]
    exact kk
  · refine lv_i2b hx hb hd rfl ?_
    have kk : W p l e R s m args below meth c H locs cells slots Q (F0 m (bp + 1) ll (.int (Int32.ofInt (q_i2b x)) :: r.map (q_cv G))) := kk
    unfold q_i2b at kk
    rw [q_i_of] at kk
    exact kk
  · refine lv_i2c hx hb hd rfl ?_
    have kk : W p l e R s m args below meth c H locs cells slots Q (F0 m (bp + 1) ll (.int (Int32.ofInt (q_i2c x)) :: r.map (q_cv G))) := kk
    unfold q_i2c at kk
    rw [q_i_of] at kk
    exact kk
  · exact lv_dup hx hb hd (by rw [← q_cat1 hG]; exact h1) kk
  · exact lv_pop hx hb hd (by rw [← q_cat1 hG]; exact h1) kk
  · exact lv_dup_x1 hx hb hd (by rw [← q_cat1 hG]; exact h1) (by rw [← q_cat1 hG]; exact h2) kk
theorem q_c_eq {x y : Int} : Int32.ofInt x = Int32.ofInt y ↔ q_w x = q_w y := Int32.toInt_inj.symm
theorem q_c_lt {x y : Int} : Int32.ofInt x < Int32.ofInt y ↔ q_w x < q_w y := Int32.lt_iff_toInt_lt
theorem q_c_le {x y : Int} : Int32.ofInt x ≤ Int32.ofInt y ↔ q_w x ≤ q_w y := Int32.le_iff_toInt_le
theorem q_o0i : (0 : Int32) = Int32.ofInt 0 := rfl
theorem q_w_0 : q_w 0 = 0 := rfl
theorem q_c_eq0 {x : Int} : Int32.ofInt x = 0 ↔ q_w x = 0 := q_c_eq (y := 0)
theorem q_c_lt0 {x : Int} : Int32.ofInt x < 0 ↔ q_w x < 0 := q_c_lt (y := 0)
theorem q_c_0lt {x : Int} : 0 < Int32.ofInt x ↔ 0 < q_w x := q_c_lt (x := 0)
theorem q_c_le0 {x : Int} : Int32.ofInt x ≤ 0 ↔ q_w x ≤ 0 := q_c_le (y := 0)
theorem q_c_0le {x : Int} : 0 ≤ Int32.ofInt x ↔ 0 ≤ q_w x := q_c_le (x := 0)
theorem q_oB (hx : p.tables.exec = Jvm.exec) (hb : c.code = cc) {op a b pc : Nat} {bf : Nat → Nat} (hp : bf pc = bp) (hq : bq = bp + len) (hd : decode cc bp = .ok (ins, len)) (hk : q_kB op a b bf pc ins len = true) {st2 : List q_V} {pc2 : Nat}
    (hs : (∃ x, op = 17 ∧ st = .inl x :: st2 ∧ pc2 = if q_cond a (q_w x) 0 = true then b else pc + 1) ∨ (∃ x y, op = 18 ∧ st = .inl y :: .inl x :: st2 ∧ pc2 = if q_cond a (q_w x) (q_w y) = true then b else pc + 1) ∨ (op = 19 ∧ st = st2 ∧ pc2 = b))
    (hn : bf (pc + 1) = bq ∨ op = 19) (kk : W p l e R s m args below meth c H locs cells slots Q (F0 m (bf pc2) ll (st2.map (q_cv G)))) : W p l e R s m args below meth c H locs cells slots Q (F0 m bp ll (st.map (q_cv G))) := by
  subst hp
  unfold q_kB at hk
  rcases hs with ⟨x, rfl, rfl, rfl⟩ | ⟨x, y, rfl, rfl, rfl⟩ | ⟨rfl, rfl, rfl⟩
  · have hn : bf (pc + 1) = bq := hn.resolve_right (by decide)
    split at hk
    · rename_i cd off
      simp only [Bool.and_eq_true, beq_iff_eq, q_jmp, decide_eq_true_eq] at hk
      obtain ⟨⟨⟨-, rfl⟩, rfl⟩, hj⟩ := hk
      have e0 : bf (pc + 1) = bf pc + 3 := by omega
      have kt : q_cond (q_kc cd) (q_w x) 0 = true → W p l e R s m args below meth c H locs cells slots Q (F0 m (bf b) ll (st2.map (q_cv G))) := fun h => by rw [if_pos h] at kk; exact kk
      have kf : ¬ q_cond (q_kc cd) (q_w x) 0 = true → W p l e R s m args below meth c H locs cells slots Q (F0 m (bf pc + 3) ll (st2.map (q_cv G))) := fun h => by rw [if_neg h, e0] at kk; exact kk
      cases cd <;> simp only [q_kc, q_cond, decide_eq_true_eq] at kt kf
      · exact lv_if_eq hx hb hd hj (fun h => kt (q_c_eq0.mp h)) (fun h => kf fun h2 => h (q_c_eq0.mpr h2))
      · exact lv_if_ne hx hb hd hj (fun h => kt fun h2 => h (q_c_eq0.mpr h2)) (fun h => kf fun h2 => h2 (q_c_eq0.mp h))
      · exact lv_if_lt hx hb hd hj (fun h => kt (q_c_lt0.mp h)) (fun h => kf fun h2 => h (q_c_lt0.mpr h2))
      · exact lv_if_ge hx hb hd hj (fun h => kt (by have := q_c_0le.mp h; omega)) (fun h => kf fun h2 => h (q_c_0le.mpr (by omega)))
      · exact lv_if_gt hx hb hd hj (fun h => kt (q_c_0lt.mp h)) (fun h => kf fun h2 => h (q_c_0lt.mpr h2))
      · exact lv_if_le hx hb hd hj (fun h => kt (by have := q_c_le0.mp h; omega)) (fun h => kf fun h2 => h (q_c_le0.mpr (by omega)))
    · exact absurd hk (by simp)
    · exact absurd hk (by simp)
    · exact absurd hk (by simp)
  · have hn : bf (pc + 1) = bq := hn.resolve_right (by decide)
    split at hk
    · exact absurd hk (by simp)
    · rename_i cd off
      simp only [Bool.and_eq_true, beq_iff_eq, q_jmp, decide_eq_true_eq] at hk
      obtain ⟨⟨⟨-, rfl⟩, rfl⟩, hj⟩ := hk
      have e0 : bf (pc + 1) = bf pc + 3 := by omega
      have kt : q_cond (q_kc cd) (q_w x) (q_w y) = true → W p l e R s m args below meth c H locs cells slots Q (F0 m (bf b) ll (st2.map (q_cv G))) := fun h => by rw [if_pos h] at kk; exact kk
      have kf : ¬ q_cond (q_kc cd) (q_w x) (q_w y) = true → W p l e R s m args below meth c H locs cells slots Q (F0 m (bf pc + 3) ll (st2.map (q_cv G))) := fun h => by rw [if_neg h, e0] at kk; exact kk
      cases cd <;> simp only [q_kc, q_cond, decide_eq_true_eq] at kt kf
      · exact lv_icmp_eq hx hb hd hj (fun h => kt (q_c_eq.mp h)) (fun h => kf fun h2 => h (q_c_eq.mpr h2))
      · exact lv_icmp_ne hx hb hd hj (fun h => kt fun h2 => h (q_c_eq.mpr h2)) (fun h => kf fun h2 => h2 (q_c_eq.mp h))
      · exact lv_icmp_lt hx hb hd hj (fun h => kt (q_c_lt.mp h)) (fun h => kf fun h2 => h (q_c_lt.mpr h2))
      · exact lv_icmp_ge hx hb hd hj (fun h => kt (by have := q_c_le.mp h; omega)) (fun h => kf fun h2 => h (q_c_le.mpr (by omega)))
      · exact lv_icmp_gt hx hb hd hj (fun h => kt (q_c_lt.mp h)) (fun h => kf fun h2 => h (q_c_lt.mpr h2))
      · exact lv_icmp_le hx hb hd hj (fun h => kt (by have := q_c_le.mp h; omega)) (fun h => kf fun h2 => h (q_c_le.mpr (by omega)))
    · exact absurd hk (by simp)
    · exact absurd hk (by simp)
  · split at hk
    · exact absurd hk (by simp)
    · exact absurd hk (by simp)
    · simp only [Bool.and_eq_true, beq_iff_eq, q_jmp, decide_eq_true_eq] at hk
      obtain ⟨⟨-, rfl⟩, hj⟩ := hk
      exact lv_goto hx hb hd hj kk
    · exact absurd hk (by simp)
theorem q_o20 (hG : q_gok G) (hx : p.tables.exec = Jvm.exec) (hb : c.code = cc) (hL : q_Ls G ls ll) {a : Nat} {x z : Int} (hv : ls[a]? = some (.inl x)) (hd : decode cc bp = .ok (ins, len)) (hk : q_k20 a z ins len = true) (hq : bq = bp + len) {rest : List Value}
    (kk : ∀ ll' : Array Slot, q_Ls G (q_set1 ls a (.inl (x + z))) ll' → W p l e R s m args below meth c H locs cells slots Q (F0 m bq ll' rest)) : W p l e R s m args below meth c H locs cells slots Q (F0 m bp ll rest) := by
  subst hq
  unfold q_k20 at hk
  split at hk
  · simp only [Bool.and_eq_true, beq_iff_eq] at hk
    obtain ⟨⟨rfl, rfl⟩, rfl⟩ := hk
    obtain ⟨k0, hk0⟩ := List.getElem?_of_mem (q_all_mem (G := G) (ls := ls) (q := (_, q_cv G (.inl x))) |>.mpr ⟨_, hv, by unfold q_dead; simp, rfl⟩)
    exact lv_iinc hx hb hd hL.has hk0 (q_i_add x _).symm (List.getElem?_eq_some_iff.mp hv).1 rfl (fun l' h => kk l' (q_Ls.set1 hG rfl h))
  · cases hk
theorem q_swk_get {bf : Nat → Nat} {pc : Nat} : ∀ {o : List Int} {t : List Nat}, q_swk bf pc o t = true → o.length = t.length ∧ ∀ (k : Nat) (off : Int), o[k]? = some off → ∃ u, t[k]? = some u ∧ (bf pc : Int) + off = (bf u : Int)
  | [], [], _ => ⟨rfl, fun k off h => by simp at h⟩
  | o :: r, t :: u, h => by
    simp only [q_swk, Bool.and_eq_true, q_jmp, decide_eq_true_eq] at h
    obtain ⟨i1, i2⟩ := q_swk_get h.2
    refine ⟨by simp [i1], fun k off hk => ?_⟩
    cases k with
    | zero => simp at hk; subst hk; exact ⟨t, rfl, h.1⟩
    | succ k => exact i2 k off (by simpa using hk)
  | [], _ :: _, h => by simp [q_swk] at h
  | _ :: _, [], h => by simp [q_swk] at h
theorem q_sw_in : ∀ {t : List Nat} {z x : Int} {d k u : Nat}, t[k]? = some u → x = z + k → q_sw z x t d = u
  | [], _, _, _, k, _, h, _ => by simp at h
  | t :: r, z, x, d, k, u, h, e => by
    unfold q_sw
    cases k with
    | zero => simp at h; rw [if_pos (by omega)]; exact h
    | succ k => rw [if_neg (by omega)]; exact q_sw_in (k := k) (by simpa using h) (by omega)
theorem q_sw_out : ∀ {t : List Nat} {z x : Int} {d : Nat}, (x < z ∨ z + t.length - 1 < x) → q_sw z x t d = d
  | [], _, _, _, _ => rfl
  | t :: r, z, x, d, h => by
    unfold q_sw
    rw [List.length_cons] at h
    rw [if_neg (by omega)]
    exact q_sw_out (by omega)
theorem q_lk_get {bf : Nat → Nat} {pc b : Nat} {dd : Int} {x : Int} (hd : (bf pc : Int) + dd = (bf b : Int)) : ∀ {ps : List (Int × Int)} {t : List Nat}, q_lkk bf pc ps t = true → (bf pc : Int) + Op.lookupswitch.offset ps dd x = (bf (q_lk x t b) : Int)
  | [], [], _ => hd
  | (k, o) :: r, m :: t :: u, h => by
    simp only [q_lkk, Bool.and_eq_true, q_jmp, decide_eq_true_eq] at h
    obtain ⟨⟨rfl, h2⟩, h3⟩ := h
    have ih := q_lk_get (x := x) hd h3
    unfold q_lk
    by_cases e : x = (m : Int)
    · rw [if_pos e]
      subst e
      simpa [Op.lookupswitch.offset] using h2
    · rw [if_neg e]
      have e2 : ¬ (m : Int) = x := fun z => e z.symm
      simpa [Op.lookupswitch.offset, e, e2] using ih
  | [], _ :: _, h => by simp [q_lkk] at h
  | _ :: _, [], h => by simp [q_lkk] at h
  | _ :: _, [_], h => by simp [q_lkk] at h
theorem q_oW (hx : p.tables.exec = Jvm.exec) (hb : c.code = cc) {op b pc : Nat} {z : Int} {t : List Nat} {bf : Nat → Nat} (hp : bf pc = bp) (hd : decode cc bp = .ok (ins, len)) (hk : q_kW op b z t bf pc ins len = true) {x : Int} {pc2 : Nat} {rest : List Value}
    (hs : (op = 38 ∧ pc2 = q_sw z (q_w x) t b) ∨ (op = 39 ∧ pc2 = q_lk (q_w x) t b))
    (kk : W p l e R s m args below meth c H locs cells slots Q (F0 m (bf pc2) ll rest)) : W p l e R s m args below meth c H locs cells slots Q (F0 m bp ll (.int (Int32.ofInt x) :: rest)) := by
  subst hp
  unfold q_kW at hk
  rcases hs with ⟨rfl, rfl⟩ | ⟨rfl, rfl⟩
  · split at hk
    · rename_i d lo hi offs
      simp only [Bool.and_eq_true, beq_iff_eq, q_jmp, decide_eq_true_eq] at hk
      obtain ⟨⟨⟨⟨-, rfl⟩, h2⟩, h3⟩, h4⟩ := hk
      obtain ⟨g1, g2⟩ := q_swk_get h4
      have e0 : (Int32.ofInt x).toInt = q_w x := rfl
      by_cases ho : q_w x < lo ∨ hi < q_w x
      · refine lv_tableOut hx hb hd (by rw [e0]; exact ho) h3 ?_
        rw [q_sw_out (by omega)] at kk
        exact kk
      · have hl : (q_w x - lo).toNat < offs.toList.length := by rw [g1]; omega
        have hg : offs.toList[(q_w x - lo).toNat]? = some offs.toList[(q_w x - lo).toNat] := List.getElem?_eq_getElem hl
        obtain ⟨u, hu, hj⟩ := g2 _ _ hg
        rw [q_sw_in hu (by omega)] at kk
        exact lv_tableIn hx hb hd (by rw [e0]; omega) (by rw [e0]; omega) (by rw [e0, ← Array.getElem?_toList]; exact hg) hj kk
    · exact absurd hk (by simp)
    · exact absurd hk (by simp)
  · split at hk
    · exact absurd hk (by simp)
    · rename_i d ps
      simp only [Bool.and_eq_true, beq_iff_eq, q_jmp, decide_eq_true_eq] at hk
      obtain ⟨⟨⟨-, h2⟩, h3⟩, h4⟩ := hk
      exact lv_lookup hx hb hd h4 rfl (q_lk_get h2 h3) kk
    · exact absurd hk (by simp)
end QO2
