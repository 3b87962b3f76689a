/-! ===== statics, arraycopy, switches, calls, returns ===== -/
section Oks4
variable {E : EV} {l : Launch} {d : Nat} {own : String} {bytes : ByteArray} {nL : Nat} {ret : Option FieldType} {α : Type} {out : α → AV × Mem} {b : Bool} {pc : Nat}
theorem ok_gsA {idx : Nat} (hl : Cond.fieldLink own idx RX10 "ABOVE" "[I" ∈ tbT) (hd : decode bytes pc = .ok (.getstatic idx, 3)) : SemOK E l d own bytes nL ret out (b, pc, 3, sGs (27, 0, 0)) := by
  intro p e s m args below meth c C nx jp rt als st M res h hn hj hr H locs ls hP hS hM hVa hVs hL
  exact va_gets C.1 C.2.1 C.2.2.2.2.2.2.2.2.1.1 hS C.2.2.2.1 (C.2.2.2.2.1 _ hl) (fun _ h9 => h9) hd (hn _ _ _ h H locs ls hP hS hM hVa (List.forall_mem_cons.mpr ⟨Or.inr (Or.inl rfl), hVs⟩) hL)
theorem ok_gsAN {idx : Nat} {host : String} (hl : Cond.fieldLinkNest own idx RX10 "ABOVE" "[I" host ∈ tbT) (hd : decode bytes pc = .ok (.getstatic idx, 3)) : SemOK E l d own bytes nL ret out (b, pc, 3, sGs (27, 0, 0)) := by
  intro p e s m args below meth c C nx jp rt als st M res h hn hj hr H locs ls hP hS hM hVa hVs hL
  exact va_getsN C.1 C.2.1 C.2.2.2.2.2.2.2.2.1.1 hS C.2.2.2.1 (C.2.2.2.2.1 _ hl) (fun _ h9 => h9) hd (hn _ _ _ h H locs ls hP hS hM hVa (List.forall_mem_cons.mpr ⟨Or.inr (Or.inl rfl), hVs⟩) hL)
theorem ok_gsBN {idx : Nat} {host : String} (hl : Cond.fieldLinkNest own idx RX10 "BODIES" "[I" host ∈ tbT) (hd : decode bytes pc = .ok (.getstatic idx, 3)) : SemOK E l d own bytes nL ret out (b, pc, 3, sGs (28, 0, 0)) := by
  intro p e s m args below meth c C nx jp rt als st M res h hn hj hr H locs ls hP hS hM hVa hVs hL
  exact va_getsN C.1 C.2.1 C.2.2.2.2.2.2.2.2.1.2.2.1 hS C.2.2.2.1 (C.2.2.2.2.1 _ hl) (fun _ h9 => h9) hd (hn _ _ _ h H locs ls hP hS hM hVa (List.forall_mem_cons.mpr ⟨Or.inr (Or.inr rfl), hVs⟩) hL)
theorem no27 {sd w i : Nat} (hsd : sd = 0 ∨ sd = 1) : (27, w, i) ∉ Ls sd := by
  intro h
  have h1 := (mem_Ls.mp h).1
  rcases hsd with rfl | rfl <;> revert h1 <;> decide
theorem no28 {sd w i : Nat} (hsd : sd = 0 ∨ sd = 1) : (28, w, i) ∉ Ls sd := by
  intro h
  have h1 := (mem_Ls.mp h).1
  rcases hsd with rfl | rfl <;> revert h1 <;> decide
theorem ok_taldA (hsd : E.2.2.2 = 0) (hd : decode bytes pc = .ok (.iaload, 1)) : SemOK E l d own bytes nL ret out (b, pc, 1, sTald 27 7 tabA) := by
  intro p e s m args below meth c C nx jp rt als st M res h hn hj hr' H locs ls hP hS hM hVa hVs hL
  simp only [sTald, ixx] at h
  split at h
  · rename_i x r' w i st'
    split at h
    · rename_i hb
      have e1 : r' = 27 := Nat.eq_of_beq_eq_true hb
      subst e1
      split at h
      · cases h
      · rename_i hx
        have e2 : (27, w, i) = ((27, 0, 0) : Loc3) := by
          rcases hVs _ (List.mem_cons_of_mem _ List.mem_cons_self) with q | q | q
          · exact absurd q (no27 (Or.inl hsd))
          · exact q
          · cases q
        cases e2
        exact va_ti C.1 C.2.1 C.2.2.2.2.2.2.2.2.1.2.1 hS (vp_of hx) rfl hd (hn _ _ _ h H locs ls hP hS hM hVa (List.forall_mem_cons.mpr ⟨trivial, fun a ha => hVs a (List.mem_cons_of_mem _ (List.mem_cons_of_mem _ ha))⟩) hL)
    · cases h
  · cases h
theorem ok_taldB (hsd : E.2.2.2 = 0) (hd : decode bytes pc = .ok (.iaload, 1)) : SemOK E l d own bytes nL ret out (b, pc, 1, sTald 28 28 tabB) := by
  intro p e s m args below meth c C nx jp rt als st M res h hn hj hr' H locs ls hP hS hM hVa hVs hL
  simp only [sTald, ixx] at h
  split at h
  · rename_i x r' w i st'
    split at h
    · rename_i hb
      have e1 : r' = 28 := Nat.eq_of_beq_eq_true hb
      subst e1
      split at h
      · cases h
      · rename_i hx
        have e2 : (28, w, i) = ((28, 0, 0) : Loc3) := by
          rcases hVs _ (List.mem_cons_of_mem _ List.mem_cons_self) with q | q | q
          · exact absurd q (no28 (Or.inl hsd))
          · cases q
          · exact q
        cases e2
        exact va_ti C.1 C.2.1 C.2.2.2.2.2.2.2.2.1.2.2.2 hS (vp_of hx) rfl hd (hn _ _ _ h H locs ls hP hS hM hVa (List.forall_mem_cons.mpr ⟨trivial, fun a ha => hVs a (List.mem_cons_of_mem _ (List.mem_cons_of_mem _ ha))⟩) hL)
    · cases h
  · cases h
theorem cp_row (M : Mem) (r w i sp w2 i2 dp n : Nat) : cpM M r w i sp w2 i2 dp n r w2 i2 = va_cpy (M r w i) (M r w2 i2) sp dp n := by
  funext k
  simp [cpM, va_cpy]
theorem cp_off {M : Mem} {r w i sp w2 i2 dp n r' w' i' k' : Nat} (h : (r', w', i') ≠ (r, w2, i2)) : cpM M r w i sp w2 i2 dp n r' w' i' k' = M r' w' i' k' := by
  unfold cpM
  rw [if_neg]
  rintro ⟨rfl, rfl, rfl, -⟩
  exact h rfl
theorem cp_cell {ad : Loc3 → Nat} {cT : Nat → ClassId} {M : Mem} {r w i sp w2 i2 dp n : Nat} {p : Loc3} (h : p ≠ (r, w2, i2)) : cellE ad cT (cpM M r w i sp w2 i2 dp n) p = cellE ad cT M p := cell_same fun j => cp_off (by obtain ⟨a, b, c⟩ := p; exact h)
theorem cp_room {d : Nat} (h : 1 ≤ d) : (([] : List Value).map fun v => v.category).sum + (nativeFrameWords "java/lang/System" "arraycopy" 5 + 11) ≤ (rmD d).locals := by
  have h1 : nativeFrameWords "java/lang/System" "arraycopy" 5 = 7 := by decide
  rw [h1]
  show 0 + (7 + 11) ≤ 40 * d
  omega
theorem nl_of {n x y : Nat} (h : ¬ n < x + y) : x + y ≤ n := by omega
theorem ok_copyI {r n idx : Nat} (hkd : kd r = (1, n, 0)) (hr : r ≠ 27 ∧ r ≠ 28) (h13 : r ≠ 13 ∧ r ≠ 17) (hdd : 1 ≤ d) (hl : Cond.methodLink own idx arraycopyName ∈ tbT) (h1 : Cond.native arraycopyName ∈ tbT) (h2 : Cond.static arraycopyName ∈ tbT) (h3 : Cond.initialized "java/lang/System" ∈ tbT) (hd : decode bytes pc = .ok (.invokestatic idx, 3)) : SemOK E l d own bytes nL ret out (b, pc, 3, sCopy r (fun _ => n)) := by
  intro p e s m args below meth c C nx jp rt als st M res h hn hj hr' H locs ls hP hS hM hVa hVs hL
  simp only [sCopy] at h
  split at h
  · rename_i cn dp r2 w2 i2 sp r1 w1 i1
    split at h
    · rename_i hb
      rw [Bool.and_eq_true] at hb
      have e1 : r1 = r := Nat.eq_of_beq_eq_true hb.1
      have e2 : r2 = r := Nat.eq_of_beq_eq_true hb.2
      subst e1
      subst e2
      split at h
      · cases h
      · rename_i hx
        simp only [not_or] at hx
        have hm1 := in_Ls (hVs (aR (r2, w1, i1)) (by simp)) hr
        have hm2 := in_Ls (hVs (aR (r2, w2, i2)) (by simp)) hr
        obtain ⟨q0, hq0, he0⟩ := wsE_at (M := M) hm1
        obtain ⟨q1, hq1, he1⟩ := wsE_at (M := M) hm2
        simp only [cellE, hkd, cellK] at he0 he1
        refine va_copyi C.1 C.2.1 (by rw [C.2.2.1]; exact hL.2.1.symm) C.2.2.2.1 (C.2.2.2.2.1 _ hl) (C.2.2.2.2.1 _ h1) (C.2.2.2.2.1 _ h2) (C.2.2.2.2.1 _ h3) C.2.2.2.2.2.2.2.1 hP (wsE_D C.2.2.2.2.2.2.2.2.2 M) hS q0 q1 0 0 he0 he1 rfl rfl rfl hx.1 hx.2.1 hx.2.2.1 (nl_of hx.2.2.2.1) (nl_of hx.2.2.2.2) (fun _ _ => rfl) (hdd : 1 ≤ (rmD d).frames) (cp_room hdd) hd (fun H1 locs1 hP1 hD1 hS1 => ?_)
        rw [wsE_set C.2.2.2.2.2.2.2.2.2 (M' := cpM M r2 w1 i1 sp.toNatClampNeg w2 i2 dp.toNatClampNeg cn.toNatClampNeg) hq1 (fun p _ hp => cp_cell hp) (by simp only [cellE, hkd, cellK, cp_row])] at hP1
        refine hn _ _ _ h H1 locs1 ls hP1 hS1 ⟨fun w' i' => ?_, fun w' i' k' => ?_⟩ hVa (fun a ha => by cases ha) hL
        · rw [cp_off (by intro e; cases e; exact h13.2 rfl)]
          exact hM.1 w' i'
        · rw [cp_off (by intro e; cases e; exact h13.1 rfl)]
          exact hM.2 w' i' k'
    · cases h
  · cases h
theorem ok_copyB {idx : Nat} (hdd : 1 ≤ d) (hl : Cond.methodLink own idx arraycopyName ∈ tbT) (h1 : Cond.native arraycopyName ∈ tbT) (h2 : Cond.static arraycopyName ∈ tbT) (h3 : Cond.initialized "java/lang/System" ∈ tbT) (hd : decode bytes pc = .ok (.invokestatic idx, 3)) : SemOK E l d own bytes nL ret out (b, pc, 3, sCopy 13 lenB) := by
  intro p e s m args below meth c C nx jp rt als st M res h hn hj hr' H locs ls hP hS hM hVa hVs hL
  simp only [sCopy] at h
  split at h
  · rename_i cn dp r2 w2 i2 sp r1 w1 i1
    split at h
    · rename_i hb
      rw [Bool.and_eq_true] at hb
      have e1 : r1 = 13 := Nat.eq_of_beq_eq_true hb.1
      have e2 : r2 = 13 := Nat.eq_of_beq_eq_true hb.2
      subst e1
      subst e2
      split at h
      · cases h
      · rename_i hx
        simp only [not_or] at hx
        have hkd : kd 13 = (2, 0, 0) := by decide
        have hm1 := in_Ls (hVs (aR (13, w1, i1)) (by simp)) ⟨by decide, by decide⟩
        have hm2 := in_Ls (hVs (aR (13, w2, i2)) (by simp)) ⟨by decide, by decide⟩
        obtain ⟨q0, hq0, he0⟩ := wsE_at (M := M) hm1
        obtain ⟨q1, hq1, he1⟩ := wsE_at (M := M) hm2
        simp only [cellE, hkd, cellK] at he0 he1
        refine va_copyi C.1 C.2.1 (by rw [C.2.2.1]; exact hL.2.1.symm) C.2.2.2.1 (C.2.2.2.2.1 _ hl) (C.2.2.2.2.1 _ h1) (C.2.2.2.2.1 _ h2) (C.2.2.2.2.1 _ h3) C.2.2.2.2.2.2.2.1 hP (wsE_D C.2.2.2.2.2.2.2.2.2 M) hS q0 q1 1 1 he0 he1 rfl rfl rfl hx.1 hx.2.1 hx.2.2.1 (nl_of hx.2.2.2.1) (nl_of hx.2.2.2.2) (fun i _ => hM.2 w1 i1 _) (hdd : 1 ≤ (rmD d).frames) (cp_room hdd) hd (fun H1 locs1 hP1 hD1 hS1 => ?_)
        rw [wsE_set C.2.2.2.2.2.2.2.2.2 (M' := cpM M 13 w1 i1 sp.toNatClampNeg w2 i2 dp.toNatClampNeg cn.toNatClampNeg) hq1 (fun p _ hp => cp_cell hp) (by simp only [cellE, hkd, cellK, cp_row])] at hP1
        refine hn _ _ _ h H1 locs1 ls hP1 hS1 ⟨fun w' i' => ?_, fun w' i' k' => ?_⟩ hVa (fun a ha => by cases ha) hL
        · rw [cp_off (by intro e; cases e)]
          exact hM.1 w' i'
        · unfold cpM
          split
          · exact hM.2 _ _ _
          · exact hM.2 w' i' k'
    · cases h
  · cases h
theorem swGo_spec {x : Int32} {f : Nat → Option α} {dt : Nat} {res : α} : ∀ {tb : List (Int32 × Nat)}, swGo x f dt tb = some res → (∃ q ∈ tb, x = q.1 ∧ f q.2 = some res) ∨ ((∀ q ∈ tb, x ≠ q.1) ∧ f dt = some res)
  | [], h => Or.inr ⟨fun _ h => (by cases h), h⟩
  | (k, t) :: r, h => by
    simp only [swGo] at h
    split at h
    · rename_i hx
      exact Or.inl ⟨(k, t), List.mem_cons_self, hx, h⟩
    · rename_i hx
      rcases swGo_spec h with ⟨q, h1, h2⟩ | ⟨h1, h2⟩
      · exact Or.inl ⟨q, List.mem_cons_of_mem _ h1, h2⟩
      · refine Or.inr ⟨fun q hq => ?_, h2⟩
        rcases List.mem_cons.mp hq with rfl | hq
        · exact hx
        · exact h1 q hq
/-- a table's rows: each key within, its target; every number within is a key -/
theorem ok_table {dt : Nat} {tb : List (Int32 × Nat)} {df lo hi : Int} {offs : Array Int} {len : Nat} (h1 : ∀ q ∈ tb, lo ≤ q.1.toInt ∧ q.1.toInt ≤ hi ∧ (offs[(q.1.toInt - lo).toNat]?).map (fun o => (pc : Int) + o) = some (q.2 : Int)) (h2 : tb.map (fun q => q.1.toInt) = (List.range (hi - lo + 1).toNat).map fun (n : Nat) => lo + (n : Int)) (h3 : (pc : Int) + df = (dt : Int)) (hd : decode bytes pc = .ok (.tableswitch df lo hi offs, len)) : SemOK E l d own bytes nL ret out (b, pc, len, sSw dt tb) := by
  intro p e s m args below meth c C nx jp rt als st M res h hn hj hr H locs ls hP hS hM hVa hVs hL
  simp only [sSw] at h
  split at h
  · rename_i x st'
    have hVs' : ∀ a ∈ st', vA E.2.2.2 a := fun a ha => hVs a (List.mem_cons_of_mem _ ha)
    rcases swGo_spec h with ⟨q, hq, rfl, hf⟩ | ⟨hq, hf⟩
    · obtain ⟨a1, a2, a3⟩ := h1 q hq
      rw [Option.map_eq_some_iff] at a3
      obtain ⟨o, b1, b2⟩ := a3
      exact lv_tableIn C.1 C.2.1 hd (by omega) (by omega) b1 b2 (hj _ _ _ _ hf H locs ls hP hS hM hVa hVs' hL)
    · refine lv_tableOut C.1 C.2.1 hd ?_ h3 (hj _ _ _ _ hf H locs ls hP hS hM hVa hVs' hL)
      by_cases e1 : x.toInt < lo
      · exact Or.inl e1
      · by_cases e2 : hi < x.toInt
        · exact Or.inr e2
        · exfalso
          have hm : x.toInt ∈ tb.map (fun q => q.1.toInt) := by
            rw [h2, List.mem_map]
            exact ⟨(x.toInt - lo).toNat, List.mem_range.mpr (by omega), by omega⟩
          obtain ⟨q, hq1, hq2⟩ := List.mem_map.mp hm
          exact hq q hq1 (Int32.toInt_inj.mp hq2.symm)
  · cases h
theorem ok_lookup {dt : Nat} {tb : List (Int32 × Nat)} {df : Int} {ps : Array (Int × Int)} {len : Nat} (hp : (ps.toList.zip (ps.toList.drop 1)).all (fun (a, next) => a.1 < next.1) = true) (h1 : ps.toList.map (fun q => (q.1, (pc : Int) + q.2)) = tb.map fun q => (q.1.toInt, (q.2 : Int))) (h3 : (pc : Int) + df = (dt : Int)) (hd : decode bytes pc = .ok (.lookupswitch df ps, len)) : SemOK E l d own bytes nL ret out (b, pc, len, sSw dt tb) := by
  intro p e s m args below meth c C nx jp rt als st M res h hn hj hr H locs ls hP hS hM hVa hVs hL
  simp only [sSw] at h
  split at h
  · rename_i x st'
    have hVs' : ∀ a ∈ st', vA E.2.2.2 a := fun a ha => hVs a (List.mem_cons_of_mem _ ha)
    have key : ∀ (pl : List (Int × Int)) (tb : List (Int32 × Nat)), pl.map (fun q => (q.1, (pc : Int) + q.2)) = tb.map (fun q => (q.1.toInt, (q.2 : Int))) → swGo x (fun t => jp t als st' M) dt tb = some res → ∃ t : Nat, (pc : Int) + Op.lookupswitch.offset pl df x.toInt = (t : Int) ∧ jp t als st' M = some res := by
      intro pl
      induction pl with
      | nil =>
        intro tb ht hs
        cases tb with
        | nil => exact ⟨dt, by simpa [Op.lookupswitch.offset] using h3, hs⟩
        | cons a r => simp at ht
      | cons a r ih =>
        intro tb ht hs
        cases tb with
        | nil => simp at ht
        | cons q r' =>
          simp only [List.map_cons, List.cons.injEq, Prod.mk.injEq] at ht
          obtain ⟨⟨g1, g2⟩, g3⟩ := ht
          obtain ⟨k, t⟩ := q
          simp only [swGo] at hs
          rw [Op.lookupswitch.offset_cons]
          split at hs
          · rename_i hx
            subst hx
            exact ⟨t, by rw [if_pos g1]; exact g2, hs⟩
          · rename_i hx
            rw [if_neg (by intro q; exact hx (Int32.toInt_inj.mp (by rw [← q, g1])))]
            exact ih r' g3 hs
    obtain ⟨t, k1, k2⟩ := key _ _ h1 h
    exact lv_lookup C.1 C.2.1 hd hp rfl k1 (hj _ _ _ _ k2 H locs ls hP hS hM hVa hVs' hL)
  · cases h
theorem ok_ireturn (hret : ret = some .int) (hd : decode bytes pc = .ok (.ireturn, 1)) : SemOK E l d own bytes nL ret out (b, pc, 1, sRetI) := by
  intro p e s m args below meth c C nx jp rt als st M res h hn hj hr H locs ls hP hS hM hVa hVs hL
  simp only [sRetI] at h
  split at h
  · rw [hr _ _ h]
    exact W.iret C.1 C.2.1 (C.2.2.2.2.2.1.trans hret) (fun t ht hW => ⟨rfl, by rw [ht]; exact hP, hM, trivial, hS.F ht⟩) hS.2.2 hd C.2.2.2.2.2.2.1
  · cases h
theorem ok_zreturn (hret : ret = some .boolean) (hd : decode bytes pc = .ok (.ireturn, 1)) : SemOK E l d own bytes nL ret out (b, pc, 1, sRetZ) := by
  intro p e s m args below meth c C nx jp rt als st M res h hn hj hr H locs ls hP hS hM hVa hVs hL
  simp only [sRetZ] at h
  split at h
  · rename_i v
    split at h
    · rename_i h01
      rw [hr _ _ h]
      exact W.zret C.1 C.2.1 (C.2.2.2.2.2.1.trans hret) (by rcases h01 with rfl | rfl <;> rfl) (fun t ht hW => ⟨rfl, by rw [ht]; exact hP, hM, trivial, hS.F ht⟩) hS.2.2 hd C.2.2.2.2.2.2.1
    · cases h
  · cases h
theorem ok_lreturn (hret : ret = some .long) (hd : decode bytes pc = .ok (.lreturn, 1)) : SemOK E l d own bytes nL ret out (b, pc, 1, sRetL) := by
  intro p e s m args below meth c C nx jp rt als st M res h hn hj hr H locs ls hP hS hM hVa hVs hL
  simp only [sRetL] at h
  split at h
  · rw [hr _ _ h]
    exact W.lret C.1 C.2.1 (C.2.2.2.2.2.1.trans hret) (fun t ht hW => ⟨rfl, by rw [ht]; exact hP, hM, trivial, hS.F ht⟩) hS.2.2 hd C.2.2.2.2.2.2.1
  · cases h
theorem ok_areturn {n : String} (hret : ret = some (.object n)) (hd : decode bytes pc = .ok (.areturn, 1)) : SemOK E l d own bytes nL ret out (b, pc, 1, sRetA) := by
  intro p e s m args below meth c C nx jp rt als st M res h hn hj hr H locs ls hP hS hM hVa hVs hL
  simp only [sRetA] at h
  split at h
  · rename_i q
    rw [hr _ _ h]
    exact W.aret C.1 C.2.1 (C.2.2.2.2.2.1.trans hret) (Or.inl ⟨_, rfl⟩) (Or.inr ⟨_, rfl⟩) (fun t ht hW => ⟨rfl, by rw [ht]; exact hP, hM, hVs _ List.mem_cons_self, hS.F ht⟩) hS.2.2 hd C.2.2.2.2.2.2.1
  · cases h
theorem ok_return (hret : ret = none) (hd : decode bytes pc = .ok (.return_, 1)) : SemOK E l d own bytes nL ret out (b, pc, 1, sRetV) := by
  intro p e s m args below meth c C nx jp rt als st M res h hn hj hr H locs ls hP hS hM hVa hVs hL
  simp only [sRetV] at h
  split at h
  · rw [hr _ _ h]
    exact W.vret C.1 C.2.1 (C.2.2.2.2.2.1.trans hret) (fun t ht hW => ⟨rfl, by rw [ht]; exact hP, hM, trivial, hS.F ht⟩) hS.2.2 hd C.2.2.2.2.2.2.1
  · cases h
end Oks4
