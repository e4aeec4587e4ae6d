/-! SOUNDNESS, SIX: rows of rows, copies, Object's constructor, statics. -/
section QK
variable {p : Program} {l : Launch} {e : Env} {R : Room} {s : State} {m : MethodId} {args : Array Value} {below : List Frame} {meth : Method} {c : Code} {H : Heap} {locs : List Loc} {cells slots : Nat} {Q : State → Prop}
variable {cc : ByteArray} {bp bq : Nat} {ll : Array Slot} {G : q_G} {S : q_S} {ins : Instr} {len : Nat} {Ts : List Jvm.Cond} {own a b n0 s0 : Nat} {t : List Nat}
theorem q_outer (c : ClassId) (N h0 : Nat) : ∀ i : Nat, Jvm.Free.Multi.outerC c N h0 i = arrV c N (fun j => va_rf (if j < i then some (h0 + 1 + j) else none))
  | 0 => by
    show ({ cls := c, slots := Array.replicate N .null, vm := .none } : Cell) = _
    rw [arrV_new]
    exact congrArg (arrV c N) (funext fun j => by simp [va_rf])
  | i + 1 => by
    show (Jvm.Free.Multi.outerC c N h0 i).setSlot i (.ref (h0 + 1 + i)) = _
    rw [q_outer c N h0 i, arrV_store]
    refine congrArg (arrV c N) (funext fun j => ?_)
    by_cases e : j = i
    · subst e
      simp [updV, va_rf]
    · by_cases h : j < i
      · simp [updV, e, h, Nat.lt_succ_of_lt h]
      · simp [updV, e, h, show ¬ j < i + 1 by omega]
def q_mna (S : q_S) (b N K : Nat) : q_S := ((q_new S ((b, N) :: List.replicate N (b - 3, K)) (N + N * K)).1, q_row (q_new S ((b, N) :: List.replicate N (b - 3, K)) (N + N * K)).2.1 S.2.2.1.length N, (q_new S ((b, N) :: List.replicate N (b - 3, K)) (N + N * K)).2.2)
theorem q_o37c (hx : p.tables.exec = Jvm.exec) (hb : c.code = cc) {ty : FieldType} {idx : Nat} (hlink : (Jvm.Cond.classLink (q_ow own) idx ("[" ++ (FieldType.array ty).toString)).before args s = true) (hover : (Jvm.Cond.arrayOver (.array ty)).before args s = true) (harr : (Jvm.Cond.arrayClass ty).before args s = true) (hown : s.vm.findClass (q_ow own) = some m.cls) (hR : q_Rp G S H) (hS : va_S (q_A G) s.heap H locs) (hn : s.heap.size = q_base G + n0) (hc0 : cells = S.2.2.1.length - n0) (hn0 : n0 ≤ S.2.2.1.length)
    {N K : Nat} (hl9 : S.2.2.1.length < 900) (hN : N < 50) (hK5 : K < 65536) (hcells : cells + (1 + N) ≤ R.cells) (hslots : slots + (N + N * K) ≤ R.slots) (hd : decode cc bp = .ok (.multianewarray idx 2, 4)) {rest : List Value}
    (hdf : fits ty (defaultValue ty) = true) (hdd : (defaultValue ty).isDefault = true) (hcb : componentBytes ty ≤ 8)
    (hB : ∀ cO cN : ClassId, s.vm.findClass ("[" ++ (FieldType.array ty).toString) = some cO → s.vm.findClass (FieldType.array ty).toString = some cN → (∃ f : Nat → Option Nat, (q_ce G (q_mna S b N K) S.2.2.1.length (b, N) = .inl (cO, N, .inr (.inr (.inr (.inr f))))) ∧ ∀ j, f j = q_ro G ((q_mna S b N K).2.1 S.2.2.1.length j)) ∧ ∀ k, S.2.2.1.length < k → k < 1000 → ∃ x : vp_A, q_ce G (q_mna S b N K) k (b - 3, K) = .inl (cN, x) ∧ Jvm.Free.Multi.innerC cN K (defaultValue ty) = vp_cell cN x)
    (kk : ∀ (H1 : Heap), q_Rp G (q_mna S b N K) H1 → va_S (q_A G) s.heap H1 locs → W p l e R s m args below meth c H1 locs (cells + 1 + N) (slots + N + N * K) Q (F0 m (bp + 4) ll (q_rv G S.2.2.1.length :: rest))) : W p l e R s m args below meth c H locs cells slots Q (F0 m bp ll (.int (Int32.ofInt K) :: .int (Int32.ofInt N) :: rest)) := by
  refine q_size fun hsz => ?_
  obtain ⟨hP, r2, r3, r4⟩ := hR
  have hlo := q_low hP hS hn
  have hH : H.size = q_base G + S.2.2.1.length := by omega
  have eN : Int32.ofInt (N : Int) = nI N := by simp [nI, Int32.ofInt_eq_ofNat]
  have eK : Int32.ofInt (K : Int) = nI K := by simp [nI, Int32.ofInt_eq_ofNat]
  have hclN : (nI N).toNatClampNeg = N := nI_clamp (by omega)
  have hclK : (nI K).toNatClampNeg = K := nI_clamp (by omega)
  rw [eN, eK]
  rw [q_rvo (show S.2.2.1.length < 1000 by omega), ← hH] at kk
  intro T hT Xs
  have hKb : K * componentBytes ty ≤ 65536 * 8 := Nat.mul_le_mul (by omega) hcb
  obtain ⟨vm₁, cA, comp, -, fA, fC, -, -, X', step⟩ := Xs.multianewarray2F hx hown hlink hover harr (g := F0 m bp ll (.int (nI K) :: .int (nI N) :: rest)) rfl (by rw [hb]; exact hd) rfl (fun h => nI_pos (n := N) (by omega) h) (fun h => nI_pos (n := K) (by omega) h) (by rw [hclN]; omega) (by rw [hclK]; omega) (by rw [hclK]; omega) hdf hdd (by rw [hclN]; exact hcells) (by rw [hclN, hclK]; exact hslots)
  rw [hclN, hclK] at X' step
  generalize hF : Jvm.Free.Multi.fill (T.setVm vm₁) cA comp N K (defaultValue ty) N = F at X' step
  have hTh : (T.setVm vm₁).heap = H := hT
  obtain ⟨f1, f2, -, -⟩ := Jvm.Free.Multi.fill_facts (T.setVm vm₁) cA comp N K (defaultValue ty) N
  rw [hF, hTh] at f1 f2
  have hold : ∀ x : Nat, x < H.size → F.heap[x]? = H[x]? := fun x hx => by
    have := Jvm.Free.Multi.fill_old (T.setVm vm₁) cA comp N K (defaultValue ty) (a := x) (by rw [hTh]; exact hx) N
    rw [hF, hTh] at this
    exact this
  have hrow : ∀ j : Nat, j < N → F.heap[H.size + 1 + j]? = some (Jvm.Free.Multi.innerC comp K (defaultValue ty)) := fun j hj => by
    have := Jvm.Free.Multi.fill_inner (T.setVm vm₁) cA comp N K (defaultValue ty) N j hj
    rw [hF, hTh] at this
    exact this
  rw [q_outer] at f2
  obtain ⟨⟨f, hB1, hB1f⟩, hB2⟩ := hB cA comp fA fC
  have hRp : q_Rp G (q_mna S b N K) F.heap := by
   refine ⟨fun k q hq => ?_, ?_, ?_, ?_⟩
   · have hq2 : (q_ws G (q_mna S b N K))[k]? = if k < S.2.2.1.length then (q_ws G S)[k]? else (((b, N) :: List.replicate N (b - 3, K))[k - S.2.2.1.length]?).map (fun q => (q_base G + k, q_ce G (q_mna S b N K) k q)) := by
       rw [q_ws_get]
       show ((S.2.2.1 ++ _)[k]?).map _ = _
       by_cases h : k < S.2.2.1.length
       · rw [if_pos h, List.getElem?_append_left h, q_ws_get]
         congr 1
         funext q
         rw [q_ce_cg (fun j => q_zero_lt h) (fun j => (if_neg (fun z => by omega)).trans (q_zero_lt h))]
       · rw [if_neg h, List.getElem?_append_right (by omega)]
     rw [hq2] at hq
     by_cases h : k < S.2.2.1.length
     · rw [if_pos h] at hq
       have hl := (hP k q hq).lt
       exact (hP k q hq).kept (hold q.1 (by omega))
     · rw [if_neg h] at hq
       cases hz : k - S.2.2.1.length with
       | zero =>
         obtain rfl : k = S.2.2.1.length := by omega
         rw [hz] at hq
         simp only [List.getElem?_cons_zero, Option.map_some] at hq
         cases hq
         rw [hB1]
         show F.heap[q_base G + S.2.2.1.length]? = some (vp_cell cA (N, _))
         rw [← hH, f2, vp_cell_q]
         congr 1
         unfold arrV
         congr 1
         refine congrArg (fun z : Fin N → Value => Array.ofFn z) (funext fun j => ?_)
         dsimp only
         rw [hB1f]
         show va_rf _ = va_rf (q_ro G (q_row _ S.2.2.1.length N S.2.2.1.length j.val))
         unfold q_row
         rw [if_pos j.isLt, if_pos ⟨rfl, j.isLt⟩]
         unfold q_ro q_ad
         rw [if_neg (by have := j.isLt; omega), if_pos (by have := j.isLt; omega), hH]
         congr 2
         omega
       | succ z =>
         rw [hz] at hq
         simp only [List.getElem?_cons_succ] at hq
         have hzN : z < N := by
           refine Nat.lt_of_not_le fun hle => ?_
           rw [List.getElem?_eq_none (by simpa using hle)] at hq
           cases hq
         rw [List.getElem?_replicate_of_lt hzN] at hq
         simp only [Option.map_some] at hq
         cases hq
         obtain ⟨x, hx1, hx2⟩ := hB2 k (by omega) (by omega)
         rw [hx1]
         show F.heap[q_base G + k]? = some (vp_cell comp x)
         rw [← hx2, ← hrow z hzN]
         congr 1
         omega
   · show (S.2.2.1 ++ _).length ≤ 1000
     simp only [List.length_append, List.length_cons, List.length_replicate]
     omega
   · intro q hq
     rcases List.mem_append.mp hq with h | h
     · exact r3 q h
     · rcases List.mem_cons.mp h with rfl | h
       · show N ≤ 65536
         omega
       · rw [(List.mem_replicate.mp h).2]
         show K ≤ 65536
         omega
   · exact q_Ro_m r4 (fun k j hk => q_zero_hi (by omega)) (fun k j hk => (if_neg (fun z => by omega)).trans (q_zero_hi (by omega)))
  obtain ⟨t2, a1, b1⟩ := kk F.heap hRp ⟨Nat.le_trans hS.1 (by omega), fun x h1 h2 => (hold x (by have := hS.1; omega)).trans (hS.2.1 x h1 h2), hS.2.2⟩ F rfl X'
  refine ⟨t2, step t2 ?_, b1⟩
  rw [hT]
  exact a1
theorem q_o37 (hx : p.tables.exec = Jvm.exec) (hb : c.code = cc) (hts : ∀ w ∈ Ts, w.before args s = true) (haw : ∀ ty ∈ [FieldType.int, .long, .byte], Jvm.Cond.arrayClass ty ∈ Ts) (hnt : ∀ q ∈ q_nt, q_nw q ∈ Ts) (hown : s.vm.findClass (q_ow own) = some m.cls) (hK : q_Kn G s) (hR : q_Rp G S H) (hS : va_S (q_A G) s.heap H locs) (hn : s.heap.size = q_base G + n0) (hc0 : cells = S.2.2.1.length - n0) (hn0 : n0 ≤ S.2.2.1.length)
    {n k : Int} (hl9 : S.2.2.1.length < 900 ∧ 0 ≤ n ∧ n < 50 ∧ 0 ≤ k ∧ k < 65536) (hcells : cells + (1 + n.toNat) ≤ R.cells) (hslots : slots + (n.toNat + n.toNat * k.toNat) ≤ R.slots) (hd : decode cc bp = .ok (ins, len)) (hk : q_kNM own b t ins len = true) (hq : bq = bp + len) {rest : List Value}
    (kk : ∀ (H1 : Heap), q_Rp G (q_mna S b n.toNat k.toNat) H1 → va_S (q_A G) s.heap H1 locs → W p l e R s m args below meth c H1 locs (cells + 1 + n.toNat) (slots + n.toNat + n.toNat * k.toNat) Q (F0 m bq ll (q_rv G S.2.2.1.length :: rest))) : W p l e R s m args below meth c H locs cells slots Q (F0 m bp ll (.int (Int32.ofInt k) :: .int (Int32.ofInt n) :: rest)) := by
  subst hq
  obtain ⟨h9, n1, n2, k1, k2⟩ := hl9
  obtain ⟨N, rfl⟩ := Int.eq_ofNat_of_zero_le n1
  obtain ⟨K, rfl⟩ := Int.eq_ofNat_of_zero_le k1
  simp only [Int.toNat_natCast] at kk hslots hcells
  have zz : ∀ j k, S.2.2.1.length < k → k < 1000 → (q_mna S b N K).1 k j = 0 := fun j k h h2 => q_zero_ge (by omega) h2
  unfold q_kNM at hk
  split at hk
  · rename_i idx d
    cases t with
    | nil => simp at hk
    | cons f t =>
      simp only [Bool.and_eq_true, Bool.or_eq_true, beq_iff_eq] at hk
      obtain ⟨⟨rfl, rfl⟩, ⟨rfl, hf⟩ | ⟨rfl, hf⟩⟩ := hk
      · refine q_o37c hx hb (ty := .int) (hts _ (hnt _ (List.mem_of_getElem? hf))) (hK.2.2.2.2.2.2.2.2.1) (hts _ (haw _ (by simp))) hown hR hS hn hc0 hn0 h9 (by omega) (by omega) hcells hslots hd rfl rfl (by decide) (fun cO cN h1 h2 => ⟨?_, fun k hk1 hk2 => ?_⟩) kk
        · have e1 : cO = q_cII G := by have h3 := (hK.1.2 3 _ rfl).2; exact Option.some.inj (h1.symm.trans h3)
          subst e1
          exact ⟨_, rfl, fun j => rfl⟩
        · have e1 : cN = q_cI G := by have h3 := (hK.1.2 0 _ rfl).2; exact Option.some.inj (h2.symm.trans h3)
          subst e1
          refine ⟨(K, .inl (fun j => Int32.ofInt ((q_mna S 3 N K).1 k j))), rfl, ?_⟩
          rw [vp_cell_i]
          show ({ cls := q_cI G, slots := Array.replicate K (.int 0), vm := .none } : Cell) = _
          rw [arrV_new]
          refine congrArg (arrV _ K) (funext fun j => ?_)
          rw [zz j k hk1 hk2]; rfl
      · refine q_o37c hx hb (ty := .long) (hts _ (hnt _ (List.mem_of_getElem? hf))) (hK.2.2.2.2.2.2.2.2.2.1) (hts _ (haw _ (by simp))) hown hR hS hn hc0 hn0 h9 (by omega) (by omega) hcells hslots hd rfl rfl (by decide) (fun cO cN h1 h2 => ⟨?_, fun k hk1 hk2 => ?_⟩) kk
        · have e1 : cO = q_cJJ G := by have h3 := (hK.1.2 4 _ rfl).2; exact Option.some.inj (h1.symm.trans h3)
          subst e1
          exact ⟨_, rfl, fun j => rfl⟩
        · have e1 : cN = q_cJ G := by have h3 := (hK.1.2 1 _ rfl).2; exact Option.some.inj (h2.symm.trans h3)
          subst e1
          refine ⟨(K, .inr (.inl (fun j => Int64.ofInt ((q_mna S 4 N K).1 k j)))), rfl, ?_⟩
          rw [vp_cell_l]
          show ({ cls := q_cJ G, slots := Array.replicate K (.long 0), vm := .none } : Cell) = _
          rw [arrV_new]
          refine congrArg (arrV _ K) (funext fun j => ?_)
          rw [zz j k hk1 hk2]; rfl
  · cases hk
end QK
