/-! SOUNDNESS, SEVEN: copies, Object's constructor, statics, returns. -/
def q_kC (o : Nat) (t : List Nat) (ins : Instr) (len : Nat) : Bool := match ins with
  | .invokestatic idx => len == 3 && (match t with | f :: _ => q_at[f]? == some (o, idx) | [] => false)
  | _ => false
def q_kO (o : Nat) (t : List Nat) (ins : Instr) (len : Nat) : Bool := match ins with
  | .invokespecial idx => len == 3 && (match t with | f :: _ => q_ot[f]? == some (o, idx) | [] => false)
  | _ => false
/-- statics: what an entry of q_st says against what is pushed -/
def q_stv (e : Nat × Nat × String × String × String × Nat) (a b : Nat) (z : Int) : Bool :=
  (e.2.2.1 == "java/lang/String" && e.2.2.2.1 == "COMPACT_STRINGS" && e.2.2.2.2.1 == "Z" && a == 0 && z == 1) ||
  (e.2.2.1 == "DoubleRootSums" && e.2.2.2.1 == "PRIMES" && e.2.2.2.2.1 == "[I" && a == 1 && b == 1002) ||
  (e.2.2.1 == "jdk/internal/util/Preconditions" && e.2.2.2.1 == "SIOOBE_FORMATTER" && e.2.2.2.2.1 == "Ljava/util/function/BiFunction;" && a == 1 && b == 1005) ||
  (e.2.2.1 == "java/lang/Integer" && e.2.2.2.1 == "DigitTens" && e.2.2.2.2.1 == "[B" && a == 1 && b == 1003) ||
  (e.2.2.1 == "java/lang/Integer" && e.2.2.2.1 == "DigitOnes" && e.2.2.2.2.1 == "[B" && a == 1 && b == 1004)
def q_kT (o a b : Nat) (z : Int) (t : List Nat) (ins : Instr) (len : Nat) : Bool := match ins with
  | .getstatic idx => len == 3 && (match t with
    | f :: _ => (match q_st[f]? with
      | some e => e.1 == o && e.2.1 == idx && q_stv e a b z
      | none => false)
    | [] => false)
  | _ => false
def q_aw (e : Nat × Nat) : Jvm.Cond := .methodLink (q_ow e.1) e.2 arraycopyName
def q_otw (e : Nat × Nat) : Jvm.Cond := .methodLink (q_ow e.1) e.2 objectInit
/-- a static's link: an ordinary one is a word, the nest mate's stands in q_Kn -/
def q_stw (e : Nat × Nat × String × String × String × Nat) : Jvm.Cond := .fieldLink (q_ow e.1) e.2.1 e.2.2.1 e.2.2.2.1 e.2.2.2.2.1
section QC
variable {p : Program} {l : Launch} {e : Env} {R : Room} {s : State} {m : MethodId} {args : Array Value} {below : List Frame} {meth : Method} {c : Code} {H : Heap} {locs : List Loc} {cells slots : Nat} {Q : State → Prop}
variable {cc : ByteArray} {bp bq : Nat} {ll : Array Slot} {G : q_G} {S : q_S} {ins : Instr} {len : Nat} {Ts : List Jvm.Cond} {own a b n0 s0 : Nat} {t : List Nat}
theorem q_cats (hG : q_gok G) (r : List q_V) : ((r.map (q_cv G)).map fun v => v.category).sum = (r.map q_cat).sum := by
  rw [List.map_map]
  congr 1
  exact List.map_congr_left fun v _ => (q_cat1 hG v).symm
theorem q_ixn {i : Int} (h0 : 0 ≤ i) (hn : i ≤ 65536) : ¬ Int32.ofInt i < 0 ∧ (Int32.ofInt i).toNatClampNeg = i.toNat := by
  obtain ⟨k, rfl⟩ := Int.eq_ofNat_of_zero_le h0
  have e : Int32.ofInt (k : Int) = nI k := by simp [nI, Int32.ofInt_eq_ofNat]
  rw [e]
  exact ⟨fun h => nI_pos (n := k) (by omega) h, nI_clamp (by omega)⟩
theorem q_o41 (hx : p.tables.exec = Jvm.exec) (hb : c.code = cc) (hml : c.maxLocals = ll.size) (hts : ∀ w ∈ Ts, w.before args s = true) (haw : ∀ q ∈ q_at, q_aw q ∈ Ts) (hw2 : ∀ w ∈ [Jvm.Cond.native arraycopyName, .static arraycopyName, .initialized "java/lang/System"], w ∈ Ts) (hown : s.vm.findClass (q_ow own) = some m.cls) (hK : q_Kn G s) (hR : q_Rp G S H) (hS : va_S (q_A G) s.heap H locs) {n i j : Int} {o1 o2 k0 m0 k1 m1 : Nat} {r : List q_V}
    (h1 : S.2.2.1[o1]? = some (k0, m0)) (h2 : S.2.2.1[o2]? = some (k1, m1)) (hc : o1 < 1000 ∧ o2 < 1000 ∧ (r.map q_cat).sum ≤ 8 ∧ k0 < 3 ∧ k0 = k1 ∧ 0 ≤ n ∧ 0 ≤ i ∧ 0 ≤ j ∧ i + n ≤ m0 ∧ j + n ≤ m1 ∧ (k0 = 2 → (List.range n.toNat).all (fun x => decide (-128 ≤ S.1 o1 (i.toNat + x) ∧ S.1 o1 (i.toNat + x) < 128)) = true)) (hRf : 1 ≤ R.frames) (hRl : 8 + (nativeFrameWords "java/lang/System" "arraycopy" 5 + 11) ≤ R.locals)
    (hd : decode cc bp = .ok (ins, len)) (hk : q_kC own t ins len = true) (hq : bq = bp + len)
    (kk : ∀ (H1 : Heap) (locs1 : List Loc), q_Rp G (q_cpy S.1 o1 i.toNat o2 j.toNat n.toNat, S.2) H1 → va_S (q_A G) s.heap H1 locs1 → W p l e R s m args below meth c H1 locs1 cells slots Q (F0 m bq ll (r.map (q_cv G)))) : W p l e R s m args below meth c H locs cells slots Q (F0 m bp ll (.int (Int32.ofInt n) :: .int (Int32.ofInt j) :: q_rv G o2 :: .int (Int32.ofInt i) :: q_rv G o1 :: r.map (q_cv G))) := by
  subst hq
  obtain ⟨c1, c2, c3, c4, rfl, c5, c6, c7, c8, c9, c10⟩ := hc
  have hG := hK.2.2.2.2.2.2.2.2.2.2.2.2
  have b1 := hR.2.2.1 _ (List.mem_of_getElem? h1)
  have b2 := hR.2.2.1 _ (List.mem_of_getElem? h2)
  dsimp only at b1 b2
  obtain ⟨n1, n2⟩ := q_ixn c5 (by omega)
  obtain ⟨i1, i2⟩ := q_ixn c6 (by omega)
  obtain ⟨j1, j2⟩ := q_ixn c7 (by omega)
  rw [q_rvo c1, q_rvo c2]
  have hl2 : ((r.map (q_cv G)).map fun v => v.category).sum + (nativeFrameWords "java/lang/System" "arraycopy" 5 + 11) ≤ R.locals := by rw [q_cats hG]; omega
  unfold q_kC at hk
  split at hk
  · rename_i idx
    cases t with
    | nil => simp at hk
    | cons f t =>
      simp only [Bool.and_eq_true, beq_iff_eq] at hk
      obtain ⟨rfl, hf⟩ := hk
      have w1 := hts _ (haw _ (List.mem_of_getElem? hf))
      have w2 := hts _ (hw2 (.native arraycopyName) (by simp))
      have w3 := hts _ (hw2 (.static arraycopyName) (by simp))
      have w4 := hts _ (hw2 (.initialized "java/lang/System") (by simp))
      have hfin : ∀ (H1 : Heap) (E : va_E), q_ce G (q_cpy S.1 o1 i.toNat o2 j.toNat n.toNat, S.2) o2 (k0, m1) = E → va_P G.1 q_cls ((q_ws G S).set o2 (q_base G + o2, E)) H1 → q_Rp G (q_cpy S.1 o1 i.toNat o2 j.toNat n.toNat, S.2) H1 := by
        intro H1 E he h
        rw [q_ws_set (S' := (q_cpy S.1 o1 i.toNat o2 j.toNat n.toNat, S.2)) h2 rfl (fun k x hkx => ⟨if_neg (fun z => hkx z.1), rfl⟩) he] at h
        exact ⟨h, hR.2.1, hR.2.2.1, q_Ro_m hR.2.2.2 (fun k x hk => if_neg (fun z => by omega)) (fun k x hk => rfl)⟩
      match k0, c4 with
      | 0, _ =>
        refine va_copyi (D := G.1) hx hb hml hown w1 w2 w3 w4 hK.1 hR.1 q_wsD hS o1 o2 0 0 (c0 := q_cI G) (c1 := q_cI G) (n0 := m0) (n1 := m1) (q_ws_at h1) (q_ws_at h2) rfl rfl rfl i1 j1 n1 (by rw [i2, n2]; omega) (by rw [j2, n2]; omega) (fun _ _ => rfl) hRf hl2 hd (fun H1 locs1 g1 _ g3 => kk H1 locs1 (hfin H1 _ ?_ g1) g3)
        show (Sum.inl (q_cI G, m1, Sum.inl _) : va_E) = _
        rw [i2, j2, n2]
        congr 4
        funext x
        unfold q_cpy va_cpy
        by_cases hx2 : j.toNat ≤ x ∧ x < j.toNat + n.toNat
        · simp [hx2]
        · rw [if_neg hx2]
          dsimp only
          rw [if_neg (fun z => hx2 z.2)]
      | 1, _ =>
        refine va_copyl (D := G.1) hx hb hml hown w1 w2 w3 w4 hK.1 hR.1 q_wsD hS o1 o2 1 1 (c0 := q_cJ G) (c1 := q_cJ G) (n0 := m0) (n1 := m1) (q_ws_at h1) (q_ws_at h2) rfl rfl rfl i1 j1 n1 (by rw [i2, n2]; omega) (by rw [j2, n2]; omega) (fun _ _ => rfl) hRf hl2 hd (fun H1 locs1 g1 _ g3 => kk H1 locs1 (hfin H1 _ ?_ g1) g3)
        show (Sum.inl (q_cJ G, m1, Sum.inr (Sum.inl _)) : va_E) = _
        rw [i2, j2, n2]
        congr 5
        funext x
        unfold q_cpy va_cpy
        by_cases hx2 : j.toNat ≤ x ∧ x < j.toNat + n.toNat
        · simp [hx2]
        · rw [if_neg hx2]
          dsimp only
          rw [if_neg (fun z => hx2 z.2)]
      | 2, _ =>
        refine va_copyi (D := G.1) hx hb hml hown w1 w2 w3 w4 hK.1 hR.1 q_wsD hS o1 o2 2 2 (c0 := q_cB G) (c1 := q_cB G) (n0 := m0) (n1 := m1) (q_ws_at h1) (q_ws_at h2) rfl rfl rfl i1 j1 n1 (by rw [i2, n2]; omega) (by rw [j2, n2]; omega) (fun x hx2 => ?_) hRf hl2 hd (fun H1 locs1 g1 _ g3 => kk H1 locs1 (hfin H1 _ ?_ g1) g3)
        · rw [n2] at hx2
          have := List.all_eq_true.mp (c10 rfl) x (List.mem_range.mpr hx2)
          simp only [decide_eq_true_eq] at this
          rw [i2]
          exact (q_byte this.1 this.2).2
        · show (Sum.inl (q_cB G, m1, Sum.inl _) : va_E) = _
          rw [i2, j2, n2]
          congr 4
          funext x
          unfold q_cpy va_cpy
          by_cases hx2 : j.toNat ≤ x ∧ x < j.toNat + n.toNat
          · simp [hx2]
          · rw [if_neg hx2]
            dsimp only
            rw [if_neg (fun z => hx2 z.2)]
  · cases hk
theorem q_o40 (hx : p.tables.exec = Jvm.exec) (hb : c.code = cc) (hml : c.maxLocals = ll.size) (hts : ∀ w ∈ Ts, w.before args s = true) (hot : ∀ q ∈ q_ot, q_otw q ∈ Ts) (hw2 : ∀ w ∈ [Jvm.Cond.instanceMethod objectInit, .code objectInit ⟨#[0xb1]⟩ 1 none], w ∈ Ts) (hown : s.vm.findClass (q_ow own) = some m.cls) (hG : q_gok G) {o : Nat} {r : List q_V} (ho : o < 1000 ∧ (r.map q_cat).sum ≤ 8) (hRf : 1 ≤ R.frames) (hRl : 20 ≤ R.locals)
    (hd : decode cc bp = .ok (ins, len)) (hk : q_kO own t ins len = true) (hq : bq = bp + len)
    (kk : W p l e R s m args below meth c H locs cells slots Q (F0 m bq ll (r.map (q_cv G)))) : W p l e R s m args below meth c H locs cells slots Q (F0 m bp ll (q_rv G o :: r.map (q_cv G))) := by
  subst hq
  rw [q_rvo ho.1]
  unfold q_kO at hk
  split at hk
  · rename_i idx
    cases t with
    | nil => simp at hk
    | cons f t =>
      simp only [Bool.and_eq_true, beq_iff_eq] at hk
      obtain ⟨rfl, hf⟩ := hk
      refine W.objInit hx hb hown (hts _ (hot _ (List.mem_of_getElem? hf))) (hts _ (hw2 _ (by simp))) (hts _ (hw2 (.code objectInit ⟨#[0xb1]⟩ 1 none) (by simp))) rfl hml.symm rfl hd hRf ?_ kk
      rw [q_cats hG]
      show 2 * 0 + _ + 12 ≤ _
      omega
  · cases hk
theorem q_o34 (hx : p.tables.exec = Jvm.exec) (hb : c.code = cc) (hts : ∀ w ∈ Ts, w.before args s = true) (hst : ∀ q ∈ q_st, q.2.2.2.2.2 = 0 → q_stw q ∈ Ts) (hst2 : ∀ q ∈ q_st, ¬ q.2.2.2.2.2 = 0 → q_nestF = .fieldLinkNest (q_ow q.1) q.2.1 q.2.2.1 q.2.2.2.1 q.2.2.2.2.1 "DoubleRootSums") (hown : s.vm.findClass (q_ow own) = some m.cls) (hK : q_Kn G s) (hS : va_S (q_A G) s.heap H locs) {z : Int}
    (hd : decode cc bp = .ok (ins, len)) (hk : q_kT own a b z t ins len = true) (hq : bq = bp + len) {rest : List Value}
    (kk : W p l e R s m args below meth c H locs cells slots Q (F0 m bq ll (q_cv G (if a = 0 then .inl z else .inr (.inr b)) :: rest))) : W p l e R s m args below meth c H locs cells slots Q (F0 m bp ll rest) := by
  subst hq
  unfold q_kT at hk
  split at hk
  · rename_i idx
    cases t with
    | nil => simp at hk
    | cons f t =>
      simp only [Bool.and_eq_true, beq_iff_eq] at hk
      obtain ⟨rfl, hk⟩ := hk
      cases hf : q_st[f]? with
      | none => rw [hf] at hk; cases hk
      | some q =>
        rw [hf] at hk
        simp only [Bool.and_eq_true, beq_iff_eq] at hk
        obtain ⟨⟨rfl, rfl⟩, hv⟩ := hk
        have hmem := List.mem_of_getElem? hf
        have hZ : va_Z q.2.2.1 q.2.2.2.1 q.2.2.2.2.1 (q_cv G (if a = 0 then .inl z else .inr (.inr b))) (q_A G) s s.heap := by
          have h3 := hK.2.2.1
          simp only [q_stv, Bool.or_eq_true, Bool.and_eq_true, beq_iff_eq] at hv
          rcases hv with (((⟨⟨⟨⟨e1, e2⟩, e3⟩, rfl⟩, rfl⟩ | ⟨⟨⟨⟨e1, e2⟩, e3⟩, rfl⟩, rfl⟩) | ⟨⟨⟨⟨e1, e2⟩, e3⟩, rfl⟩, rfl⟩) | ⟨⟨⟨⟨e1, e2⟩, e3⟩, rfl⟩, rfl⟩) | ⟨⟨⟨⟨e1, e2⟩, e3⟩, rfl⟩, rfl⟩ <;> rw [e1, e2, e3]
          · exact h3 ("java/lang/String", "COMPACT_STRINGS", "Z", .int 1) (by simp [q_sv])
          · exact h3 ("DoubleRootSums", "PRIMES", "[I", .ref (q_gp G)) (by simp [q_sv])
          · exact h3 ("jdk/internal/util/Preconditions", "SIOOBE_FORMATTER", "Ljava/util/function/BiFunction;", q_gv G) (by simp [q_sv])
          · exact h3 ("java/lang/Integer", "DigitTens", "[B", .ref (q_gt G)) (by simp [q_sv])
          · exact h3 ("java/lang/Integer", "DigitOnes", "[B", .ref (q_go G)) (by simp [q_sv])
        by_cases hn : q.2.2.2.2.2 = 0
        · exact va_gets hx hb hZ hS hown (hts _ (hst q hmem hn)) (fun _ h => h) hd kk
        · have h8 := hK.2.2.2.2.2.2.2.1
          rw [hst2 q hmem hn] at h8
          exact va_getsN hx hb hZ hS hown (va_Nw.use rfl h8) (fun _ h => h) hd kk
  · cases hk
end QC
