/-! SOUNDNESS, THREE: fields and rows. -/
theorem q_ce_cg {G : q_G} {S S' : q_S} {k : Nat} {sh : Nat × Nat} (hm : ∀ j, S'.1 k j = S.1 k j) (hr : ∀ j, S'.2.1 k j = S.2.1 k j) : q_ce G S' k sh = q_ce G S k sh := by
  have e1 : S'.1 k = S.1 k := funext hm
  have e2 : S'.2.1 k = S.2.1 k := funext hr
  have e3 : ∀ c, q_fv G S' c k = q_fv G S c k := fun c => funext fun j => by unfold q_fv; rw [e1, e2]
  unfold q_ce
  simp only [e1, e2, e3]
theorem q_ws_set {G : q_G} {S S' : q_S} {o : Nat} {sh : Nat × Nat} {E : va_E} (h : S.2.2.1[o]? = some sh) (hs : S'.2.2.1 = S.2.2.1) (hne : ∀ k j, ¬ k = o → S'.1 k j = S.1 k j ∧ S'.2.1 k j = S.2.1 k j) (he : q_ce G S' o sh = E) : (q_ws G S).set o (q_base G + o, E) = q_ws G S' := by
  apply List.ext_getElem?
  intro k
  rw [q_ws_get, hs]
  by_cases hk : k = o
  · subst hk
    have hl : k < (q_ws G S).length := by
      have := (List.getElem?_eq_some_iff.mp (q_ws_at (G := G) h)).1
      exact this
    rw [List.getElem?_set_self hl, h, Option.map_some, he]
  · rw [List.getElem?_set_ne (fun e => hk e.symm), q_ws_get]
    congr 1
    funext q
    rw [q_ce_cg (fun j => (hne k j hk).1) (fun j => (hne k j hk).2)]
theorem q_ix {i : Int} {n : Nat} (h0 : 0 ≤ i) (h1 : i < n) (hn : n ≤ 65536) : vp_in (Int32.ofInt i) n ∧ (Int32.ofInt i).toNatClampNeg = i.toNat := by
  obtain ⟨k, rfl⟩ := Int.eq_ofNat_of_zero_le h0
  have e : Int32.ofInt (k : Int) = nI k := by simp [nI, Int32.ofInt_eq_ofNat]
  rw [e]
  exact ⟨vp_in_nI (by omega) (by omega), nI_clamp (by omega)⟩
theorem q_shpo {S : q_S} {o b : Nat} (h : (S.2.2.1[o]?).map Prod.fst = some b) : ∃ n, S.2.2.1[o]? = some (b, n) := by
  cases hs : S.2.2.1[o]? with
  | none => rw [hs] at h; cases h
  | some q => rw [hs] at h; cases h; exact ⟨q.2, rfl⟩
theorem q_fvs {G : q_G} {S : q_S} {c o k : Nat} (hk : k < q_nf c) : ((List.range (q_nf c)).map (q_fv G S c o))[k]? = some (q_fv G S c o k) := by
  rw [List.getElem?_map, List.getElem?_range hk]; rfl
/-- the word of a field's link, as a program checks it -/
def q_kF (o a b : Nat) (t : List Nat) (idx : Nat) : Bool := match t with
  | f :: _ => q_ft[f]? == some (o, idx, b, a) && decide (b < 14) && decide (a < q_nf b)
  | [] => false
theorem q_kF_of {o a b : Nat} {t : List Nat} {idx : Nat} (h : q_kF o a b t idx = true) : (o, idx, b, a) ∈ q_ft ∧ b < 14 ∧ a < q_nf b := by
  unfold q_kF at h
  split at h
  · simp only [Bool.and_eq_true, beq_iff_eq, decide_eq_true_eq] at h
    exact ⟨List.mem_of_getElem? h.1.1, h.1.2, h.2⟩
  · cases h
theorem q_clq_at {b : Nat} (h : b < 14) : q_cls[b]? = some (q_clq b) := by
  have hl : b < q_cls.length := by rw [q_cls_len]; exact h
  unfold q_clq
  rw [List.getD_eq_getElem?_getD, List.getElem?_eq_getElem hl]
  rfl
theorem q_nf_at {b : Nat} (h : b < 14) : q_nf b = (q_clq b).2.2 := by
  unfold q_nf
  rw [q_clq_at h]
def q_kG (o a b : Nat) (t : List Nat) (r : Bool) (ins : Instr) (len : Nat) : Bool := match ins with
  | .getfield idx => q_kF o a b t idx && q_isr b a == r && len == 3
  | _ => false
def q_fin (b a : Nat) : Bool := ((q_clq b).2.1 a).2.2.2
def q_kP (o a b : Nat) (t : List Nat) (nm : String) (r : Bool) (z : Int) (ins : Instr) (len : Nat) : Bool := match ins with
  | .putfield idx => q_kF o a b t idx && q_isr b a == r && len == 3 && (!q_fin b a || (nm == "<init>" && ((q_clq b).2.1 a).1 == q_ow o)) && (r || (z == 0 && decide (q_ty b a = .int)) || (z == 1 && decide (q_ty b a = .boolean)) || (z == 2 && decide (q_ty b a = .byte))) && (!r || (match q_ty b a with | .object _ => true | .array _ => true | _ => false))
  | _ => false
theorem q_Ro_m {G : q_G} {S S' : q_S} (h : q_Ro G S) (hm : ∀ k j, 1000 < k → S'.1 k j = S.1 k j) (hr : ∀ k j, 1000 < k → S'.2.1 k j = S.2.1 k j) : q_Ro G S' := by
  obtain ⟨h1, h2, h3, h4, h5, h6⟩ := h
  exact ⟨fun j hj => by rw [hm 1001 j (by omega)]; exact h1 j hj, by rw [hr 1001 0 (by omega)]; exact h2, h3, fun j hj => by rw [hm 1002 j (by omega)]; exact h4 j hj, fun j hj => by rw [hm 1003 j (by omega)]; exact h5 j hj, fun j hj => by rw [hm 1004 j (by omega)]; exact h6 j hj⟩
theorem q_byte {x : Int} (h1 : -128 ≤ x) (h2 : x < 128) : narrow .byte (.int (Int32.ofInt x)) = .int (Int32.ofInt x) ∧ fits .byte (.int (Int32.ofInt x)) = true := by
  have key : ∀ n : Nat, n < 256 → narrow .byte (.int (Int32.ofInt ((n : Int) - 128))) = .int (Int32.ofInt ((n : Int) - 128)) ∧ fits .byte (.int (Int32.ofInt ((n : Int) - 128))) = true := by decide +kernel
  have := key (x + 128).toNat (by omega)
  rwa [show (((x + 128).toNat : Nat) : Int) - 128 = x by omega] at this
section QM
variable {p : Program} {l : Launch} {e : Env} {R : Room} {s : State} {m : MethodId} {args : Array Value} {below : List Frame} {meth : Method} {c : Code} {H : Heap} {locs : List Loc} {cells slots : Nat} {Q : State → Prop}
variable {cc : ByteArray} {bp bq : Nat} {ll : Array Slot} {G : q_G} {S : q_S} {ins : Instr} {len : Nat} {Ts : List Jvm.Cond} {own a b : Nat} {t : List Nat}
theorem q_oG {r : Bool} (hx : p.tables.exec = Jvm.exec) (hb : c.code = cc) (hts : ∀ w ∈ Ts, w.before args s = true) (hft : ∀ q ∈ q_ft, q_fw q ∈ Ts) (hlay : ∀ (k : Nat) (q : vw_C), q_cls[k]? = some q → ∀ w ∈ u_ws q.1 q.2.1 q.2.2, w ∈ Ts) (hown : s.vm.findClass (q_ow own) = some m.cls) (hK : q_Kn G s) (hR : q_Rp G S H)
    {o : Nat} (ho : (S.2.2.1[o]?).map Prod.fst = some (b + 5)) (hd : decode cc bp = .ok (ins, len)) (hk : q_kG own a b t r ins len = true) (hq : bq = bp + len) {rest : List Value} (ho1 : o < 1000)
    (kk : W p l e R s m args below meth c H locs cells slots Q (F0 m bq ll (q_fv G S b o a :: rest))) : W p l e R s m args below meth c H locs cells slots Q (F0 m bp ll (q_rv G o :: rest)) := by
  subst hq
  have er : q_rv G o = .ref (q_base G + o) := by
    unfold q_rv q_ro q_ad
    rw [if_neg (by omega), if_neg (by omega), if_pos ho1]
    rfl
  rw [er]
  unfold q_kG at hk
  split at hk
  · rename_i idx
    simp only [Bool.and_eq_true, beq_iff_eq] at hk
    obtain ⟨⟨hk, -⟩, rfl⟩ := hk
    obtain ⟨hf, hb14, ha⟩ := q_kF_of hk
    obtain ⟨n, hn⟩ := q_shpo ho
    exact va_get (D := G.1) hx hb hts (hlay b _ (q_clq_at hb14)) hown hK.1 hR.1 o (q_ws_at hn) (q_clq_at hb14) a (by rw [← q_nf_at hb14]; exact ha) (hts _ (hft _ hf)) (fun _ h => h) (q_fvs ha) hd kk
  · cases hk
theorem q_oP {r : Bool} {z : Int} {nm : String} (hx : p.tables.exec = Jvm.exec) (hb : c.code = cc) (hts : ∀ w ∈ Ts, w.before args s = true) (hft : ∀ q ∈ q_ft, q_fw q ∈ Ts) (hlay : ∀ (k : Nat) (q : vw_C), q_cls[k]? = some q → ∀ w ∈ u_ws q.1 q.2.1 q.2.2, w ∈ Ts) (hown : s.vm.findClass (q_ow own) = some m.cls) (hnm : meth.name = nm) (hK : q_Kn G s) (hR : q_Rp G S H) (hS : va_S (q_A G) s.heap H locs)
    {o : Nat} (ho : (S.2.2.1[o]?).map Prod.fst = some (b + 5)) (ho1 : o < 1000) (hd : decode cc bp = .ok (ins, len)) (hk : q_kP own a b t nm r z ins len = true) (hq : bq = bp + len) {rest : List Value}
    {S' : q_S} {v : q_V} (hv : (r = false ∧ ∃ x, v = .inl x ∧ (z = 1 → x = 0 ∨ x = 1) ∧ (z = 2 → -128 ≤ x ∧ x < 128) ∧ S' = (q_upd S.1 o a x, S.2)) ∨ (r = true ∧ ∃ k, v = .inr (.inr k) ∧ k < 1000 ∧ S' = (S.1, q_upd S.2.1 o a k, S.2.2)))
    (kk : ∀ (H1 : Heap) (locs1 : List Loc), q_Rp G S' H1 → va_S (q_A G) s.heap H1 locs1 → W p l e R s m args below meth c H1 locs1 cells slots Q (F0 m bq ll rest)) : W p l e R s m args below meth c H locs cells slots Q (F0 m bp ll (q_cv G v :: q_rv G o :: rest)) := by
  subst hq
  have er : q_rv G o = .ref (q_base G + o) := by
    unfold q_rv q_ro q_ad
    rw [if_neg (by omega), if_neg (by omega), if_pos ho1]
    rfl
  rw [er]
  unfold q_kP at hk
  split at hk
  · rename_i idx
    simp only [Bool.and_eq_true, beq_iff_eq] at hk
    obtain ⟨⟨⟨⟨⟨hk, hr⟩, rfl⟩, hfin⟩, hty⟩, hty2⟩ := hk
    obtain ⟨hf, hb14, ha⟩ := q_kF_of hk
    obtain ⟨n, hn⟩ := q_shpo ho
    have ha2 : a < (q_clq b).2.2 := by rw [← q_nf_at hb14]; exact ha
    obtain ⟨hok1, hok2⟩ := q_cls_ok b _ (q_clq_at hb14)
    have hset : (q_ws G S).set o (q_base G + o, .inr (b, ((List.range (q_nf b)).map (q_fv G S b o)).set a (q_cv G v))) = q_ws G S' := by
      refine q_ws_set hn ?_ ?_ ?_
      · rcases hv with ⟨-, x, -, -, -, rfl⟩ | ⟨-, k, -, -, rfl⟩ <;> rfl
      · intro k j hkj
        rcases hv with ⟨-, x, -, -, -, rfl⟩ | ⟨-, k, -, -, rfl⟩
        · exact ⟨if_neg (fun h => hkj h.1), rfl⟩
        · exact ⟨rfl, if_neg (fun h => hkj h.1)⟩
      · show (Sum.inr (b, _) : va_E) = _
        congr 2
        apply List.ext_getElem?
        intro j
        rw [List.getElem?_set]
        by_cases hj : j = a
        · subst hj
          rw [if_pos rfl, if_pos (by simpa using ha), q_fvs ha]
          rcases hv with ⟨rfl, x, rfl, -, -, rfl⟩ | ⟨rfl, k, rfl, -, rfl⟩
          · unfold q_fv
            rw [hr]
            simp [q_upd, q_cv]
          · unfold q_fv
            rw [hr]
            simp [q_upd, q_cv]
        · rw [if_neg (fun h => hj h.symm), List.getElem?_map, List.getElem?_map]
          cases hj2 : (List.range (q_nf b))[j]? with
          | none => rfl
          | some i =>
            have hi : i = j := by
              rw [List.getElem?_range (by simpa using (List.getElem?_eq_some_iff.mp hj2).1)] at hj2
              exact (Option.some.inj hj2).symm
            subst hi
            simp only [Option.map_some]
            rcases hv with ⟨rfl, x, rfl, -, -, rfl⟩ | ⟨rfl, k, rfl, -, rfl⟩ <;> simp [q_fv, q_upd, hj]
    have hrp : ∀ (H1 : Heap), va_P G.1 q_cls ((q_ws G S).set o (q_base G + o, .inr (b, ((List.range (q_nf b)).map (q_fv G S b o)).set a (q_cv G v)))) H1 → q_Rp G S' H1 := by
      intro H1 h1
      rw [hset] at h1
      obtain ⟨-, r2, r3, r4⟩ := hR
      rcases hv with ⟨-, x, -, -, -, rfl⟩ | ⟨-, k, -, -, rfl⟩
      · exact ⟨h1, r2, r3, q_Ro_m r4 (fun k j hk => if_neg (fun h => by omega)) (fun k j hk => rfl)⟩
      · exact ⟨h1, r2, r3, q_Ro_m r4 (fun k j hk => rfl) (fun k j hk => if_neg (fun h => by omega))⟩
    have hnf : narrow (q_ty b a) (q_cv G v) = q_cv G v ∧ fits (q_ty b a) (q_cv G v) = true := by
      rcases hv with ⟨rfl, x, rfl, z1, z2, -⟩ | ⟨rfl, k, rfl, k1, -⟩
      · simp only [Bool.or_eq_true, Bool.and_eq_true, beq_iff_eq, decide_eq_true_eq, Bool.false_eq_true, false_or] at hty
        rcases hty with ((⟨rfl, e⟩ | ⟨rfl, e⟩) | ⟨rfl, e⟩)
        · rw [e]; exact ⟨rfl, rfl⟩
        · rw [e]; rcases z1 rfl with rfl | rfl <;> exact ⟨rfl, rfl⟩
        · rw [e]; exact q_byte (z2 rfl).1 (z2 rfl).2
      · simp only [Bool.not_true, Bool.false_or] at hty2
        show narrow (q_ty b a) (q_rv G k) = q_rv G k ∧ fits (q_ty b a) (q_rv G k) = true
        have e : q_rv G k = .ref (q_base G + k) := by
          unfold q_rv q_ro q_ad
          rw [if_neg (by omega), if_neg (by omega), if_pos k1]
          rfl
        rw [e]
        split at hty2 <;> rename_i e2 <;> first | (rw [e2]; exact ⟨rfl, rfl⟩) | cases hty2
    have hl : a < ((List.range (q_nf b)).map (q_fv G S b o)).length := by simpa using ha
    by_cases hf2 : q_fin b a = true
    · rw [hf2] at hfin
      simp only [Bool.not_true, Bool.false_or, Bool.and_eq_true, beq_iff_eq] at hfin
      exact va_putF (D := G.1) (ty := q_ty b a) hx hb hts (hlay b _ (q_clq_at hb14)) (q_ty b) hok1 hok2 hown hK.1 hR.1 q_wsD hS o (q_ws_at hn) (q_clq_at hb14) a ha2 (hts _ (hft _ hf)) (fun _ h => h) hf2 (hnm.trans hfin.1) hfin.2 (hok1 a ha2) hnf.1 hnf.2 hl hd (fun H1 locs1 h1 _ h3 => kk H1 locs1 (hrp H1 h1) h3)
    · exact va_put (D := G.1) (ty := q_ty b a) hx hb hts (hlay b _ (q_clq_at hb14)) (q_ty b) hok1 hok2 hown hK.1 hR.1 q_wsD hS o (q_ws_at hn) (q_clq_at hb14) a ha2 (hts _ (hft _ hf)) (fun _ h => h) (by simpa [q_fin] using hf2) (hok1 a ha2) hnf.1 hnf.2 hl hd (fun H1 locs1 h1 _ h3 => kk H1 locs1 (hrp H1 h1) h3)
  · cases hk
end QM
