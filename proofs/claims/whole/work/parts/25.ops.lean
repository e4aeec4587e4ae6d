/-! SOUNDNESS, ONE: instructions that touch no heap -/
section QO
variable {p : Program} {l : Launch} {e : Env} {R : Room} {s : State} {m : MethodId} {args : Array Value} {below : List Frame} {meth : Method} {c : Code} {H : Heap} {locs : List Loc} {cells slots : Nat} {Q : State → Prop}
variable {cc : ByteArray} {bp bq : Nat} {ll : Array Slot} {G : q_G} {ls : List q_V} {st : List q_V} {ins : Instr} {len : Nat}
theorem q_o0 (hx : p.tables.exec = Jvm.exec) (hb : c.code = cc) (hL : q_Ls G ls ll) {a : Nat} {x : Int} (hv : ls[a]? = some (.inl x)) (hd : decode cc bp = .ok (ins, len)) (hk : q_k0 a ins len = true) (hq : bq = bp + len) {rest : List Value}
    (kk : W p l e R s m args below meth c H locs cells slots Q (F0 m bq ll (.int (Int32.ofInt x) :: rest))) : W p l e R s m args below meth c H locs cells slots Q (F0 m bp ll rest) := by
  have h1 := hL.at hv (by unfold q_dead; simp)
  subst hq
  unfold q_k0 at hk
  split at hk <;> simp only [Bool.and_eq_true, beq_iff_eq, Bool.false_eq_true] at hk
  · obtain ⟨e1, rfl⟩ := hk
    exact lv_iload_n hx hb hd e1 h1 kk
  · obtain ⟨rfl, rfl⟩ := hk
    exact lv_iload hx hb hd h1 kk
theorem q_o1 (hx : p.tables.exec = Jvm.exec) (hb : c.code = cc) (hL : q_Ls G ls ll) {a : Nat} {x : Int} (hv : ls[a]? = some (.inr (.inl x))) (hd : decode cc bp = .ok (ins, len)) (hk : q_k1 a ins len = true) (hq : bq = bp + len) {rest : List Value}
    (kk : W p l e R s m args below meth c H locs cells slots Q (F0 m bq ll (.long (Int64.ofInt x) :: rest))) : W p l e R s m args below meth c H locs cells slots Q (F0 m bp ll rest) := by
  have h1 := hL.at hv (by unfold q_dead; simp)
  subst hq
  unfold q_k1 at hk
  split at hk <;> simp only [Bool.and_eq_true, beq_iff_eq, Bool.false_eq_true] at hk
  · obtain ⟨e1, rfl⟩ := hk
    exact lv_lload_n hx hb hd e1 h1 kk
  · obtain ⟨rfl, rfl⟩ := hk
    exact lv_lload hx hb hd h1 kk
theorem q_rv_ok {k : Nat} (h : q_ok1 k = true) : q_rv G k = .ref (q_ad G k) := by
  unfold q_ok1 at h
  simp only [Bool.or_eq_true, decide_eq_true_eq] at h
  unfold q_rv q_ro
  rw [if_neg (by omega), if_neg (by omega)]
  rfl
theorem q_o2 (hx : p.tables.exec = Jvm.exec) (hb : c.code = cc) (hL : q_Ls G ls ll) {a k : Nat} (hv : ls[a]? = some (.inr (.inr k))) (ho : q_ok1 k = true) (hd : decode cc bp = .ok (ins, len)) (hk : q_k2 a ins len = true) (hq : bq = bp + len) {rest : List Value}
    (kk : W p l e R s m args below meth c H locs cells slots Q (F0 m bq ll (q_rv G k :: rest))) : W p l e R s m args below meth c H locs cells slots Q (F0 m bp ll rest) := by
  have h1 := hL.at hv (by unfold q_dead; unfold q_ok1 at ho; simp only [Bool.or_eq_true, decide_eq_true_eq] at ho; simp; omega)
  have h2 : q_cv G (.inr (.inr k)) = .ref (q_ad G k) := q_rv_ok ho
  rw [h2] at h1
  rw [q_rv_ok ho] at kk
  subst hq
  unfold q_k2 at hk
  split at hk <;> simp only [Bool.and_eq_true, beq_iff_eq, Bool.false_eq_true] at hk
  · obtain ⟨e1, rfl⟩ := hk
    exact lv_aload_n hx hb hd e1 h1 kk
  · obtain ⟨rfl, rfl⟩ := hk
    exact lv_aload hx hb hd h1 kk
theorem q_o3 (hG : q_gok G) (hx : p.tables.exec = Jvm.exec) (hb : c.code = cc) (hL : q_Ls G ls ll) {a : Nat} {x : Int} (ha : a < ls.length) (hd : decode cc bp = .ok (ins, len)) (hk : q_k3 a ins len = true) (hq : bq = bp + len) {rest : List Value}
    (kk : ∀ ll' : Array Slot, q_Ls G (q_set1 ls a (.inl x)) ll' → W p l e R s m args below meth c H locs cells slots Q (F0 m bq ll' rest)) : W p l e R s m args below meth c H locs cells slots Q (F0 m bp ll (.int (Int32.ofInt x) :: rest)) := by
  subst hq
  unfold q_k3 at hk
  split at hk <;> simp only [Bool.and_eq_true, beq_iff_eq, Bool.false_eq_true] at hk
  · obtain ⟨e1, rfl⟩ := hk
    exact lv_istore_n hx hb hd e1 hL.has ha rfl (fun l' h => kk l' (q_Ls.set1 hG rfl h))
  · obtain ⟨rfl, rfl⟩ := hk
    exact lv_istore hx hb hd hL.has ha rfl (fun l' h => kk l' (q_Ls.set1 hG rfl h))
theorem q_o4 (hG : q_gok G) (hx : p.tables.exec = Jvm.exec) (hb : c.code = cc) (hL : q_Ls G ls ll) {a : Nat} {x : Int} (ha : a + 1 < ls.length) (hd : decode cc bp = .ok (ins, len)) (hk : q_k4 a ins len = true) (hq : bq = bp + len) {rest : List Value}
    (kk : ∀ ll' : Array Slot, q_Ls G (q_set2 ls a (.inr (.inl x))) ll' → W p l e R s m args below meth c H locs cells slots Q (F0 m bq ll' rest)) : W p l e R s m args below meth c H locs cells slots Q (F0 m bp ll (.long (Int64.ofInt x) :: rest)) := by
  subst hq
  unfold q_k4 at hk
  split at hk <;> simp only [Bool.and_eq_true, beq_iff_eq, Bool.false_eq_true] at hk
  · obtain ⟨e1, rfl⟩ := hk
    exact lv_lstore_n hx hb hd e1 hL.has ha rfl (fun l' h => kk l' (q_Ls.set2 hG rfl h))
  · obtain ⟨rfl, rfl⟩ := hk
    exact lv_lstore hx hb hd hL.has ha rfl (fun l' h => kk l' (q_Ls.set2 hG rfl h))
theorem q_o5 (hG : q_gok G) (hx : p.tables.exec = Jvm.exec) (hb : c.code = cc) (hL : q_Ls G ls ll) {a k : Nat} (ha : a < ls.length) (ho : q_ok1 k = true) (hd : decode cc bp = .ok (ins, len)) (hk : q_k5 a ins len = true) (hq : bq = bp + len) {rest : List Value}
    (kk : ∀ ll' : Array Slot, q_Ls G (q_set1 ls a (.inr (.inr k))) ll' → W p l e R s m args below meth c H locs cells slots Q (F0 m bq ll' rest)) : W p l e R s m args below meth c H locs cells slots Q (F0 m bp ll (q_rv G k :: rest)) := by
  have h2 : Value.ref (q_ad G k) = q_cv G (.inr (.inr k)) := (q_rv_ok ho).symm
  rw [q_rv_ok ho]
  subst hq
  unfold q_k5 at hk
  split at hk <;> simp only [Bool.and_eq_true, beq_iff_eq, Bool.false_eq_true] at hk
  · obtain ⟨e1, rfl⟩ := hk
    exact lv_astore_n hx hb hd e1 hL.has ha rfl (fun l' h => kk l' (q_Ls.set1 hG h2 h))
  · obtain ⟨rfl, rfl⟩ := hk
    exact lv_astore hx hb hd hL.has ha rfl (fun l' h => kk l' (q_Ls.set1 hG h2 h))
theorem q_o6 (hx : p.tables.exec = Jvm.exec) (hb : c.code = cc) {o : Nat} {z : Int} {t : List Nat} (hown : s.vm.findClass (q_ow o) = some m.cls) (hw : ∀ q ∈ q_kt, (q_kw q).before args s = true) (hd : decode cc bp = .ok (ins, len)) (hk : q_k6 o z t ins len = true) (hq : bq = bp + len) {rest : List Value}
    (kk : W p l e R s m args below meth c H locs cells slots Q (F0 m bq ll (.int (Int32.ofInt z) :: rest))) : W p l e R s m args below meth c H locs cells slots Q (F0 m bp ll rest) := by
  subst hq
  unfold q_k6 at hk
  split at hk
  · simp only [Bool.and_eq_true, beq_iff_eq] at hk
    obtain ⟨rfl, rfl⟩ := hk
    exact lv_iconst hx hb hd rfl kk
  · simp only [Bool.and_eq_true, beq_iff_eq] at hk
    obtain ⟨e1, rfl⟩ := hk
    exact lv_bipush hx hb hd e1 kk
  · simp only [Bool.and_eq_true, beq_iff_eq] at hk
    obtain ⟨e1, rfl⟩ := hk
    exact lv_sipush hx hb hd e1 kk
  · cases t with
    | nil => simp at hk
    | cons k t =>
      simp only [Bool.and_eq_true, beq_iff_eq] at hk
      obtain ⟨e1, rfl⟩ := hk
      exact lv_ldc hx hb hown (hw _ (List.mem_of_getElem? e1)) hd kk
  · cases t with
    | nil => simp at hk
    | cons k t =>
      simp only [Bool.and_eq_true, beq_iff_eq] at hk
      obtain ⟨e1, rfl⟩ := hk
      exact lv_ldcw hx hb hown (hw _ (List.mem_of_getElem? e1)) hd kk
  · cases hk
theorem q_o7 (hx : p.tables.exec = Jvm.exec) (hb : c.code = cc) {o : Nat} {z : Int} {t : List Nat} (hown : s.vm.findClass (q_ow o) = some m.cls) (hw : ∀ q ∈ q_ku, (q_kwl q).before args s = true) (hd : decode cc bp = .ok (ins, len)) (hk : q_k7 o z t ins len = true) (hq : bq = bp + len) {rest : List Value}
    (kk : W p l e R s m args below meth c H locs cells slots Q (F0 m bq ll (.long (Int64.ofInt z) :: rest))) : W p l e R s m args below meth c H locs cells slots Q (F0 m bp ll rest) := by
  subst hq
  unfold q_k7 at hk
  split at hk
  · simp only [Bool.and_eq_true, beq_iff_eq] at hk
    obtain ⟨rfl, rfl⟩ := hk
    exact lv_lconst hx hb hd (by first | rfl | simp [Int64.ofInt_eq_ofNat]) kk
  · cases t with
    | nil => simp at hk
    | cons k t =>
      simp only [Bool.and_eq_true, beq_iff_eq] at hk
      obtain ⟨e1, rfl⟩ := hk
      exact lv_ldc2 hx hb hown (hw _ (List.mem_of_getElem? e1)) hd kk
  · cases hk
end QO
