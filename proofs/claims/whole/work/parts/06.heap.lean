/-! ===== fields, rows, statics ===== -/
def CK (ci : Nat) (C : String) (T : u_T) (N : Nat) (ty : Nat → FieldType) : Prop := cls[ci]? = some (C, T, N) ∧ (∀ w ∈ u_ws C T N, w ∈ tbT) ∧ (∀ k, k < N → parseFieldDescriptor (T k).2.2.1 = some (ty k)) ∧ ∀ a, a < N → ∀ b, b < N → a ≠ b → (T a).2.1 ≠ (T b).2.1
theorem gvF_cong {r w i k : Nat} {M M' : Mem} (h : M' r w i k = M r w i k) : gvF r w i k M' = gvF r w i k M := by
  unfold gvF
  split <;> first | rfl | (rw [h])
theorem up_same (M : Mem) (r w i k : Nat) (v : Int32) : up M r w i k v r w i k = v := by simp [up]
theorem up_k {M : Mem} {r w i k j : Nat} {v : Int32} (h : j ≠ k) : up M r w i k v r w i j = M r w i j := by simp [up, h]
theorem up_r {M : Mem} {r w i k r' w' i' k' : Nat} {v : Int32} (h : (r', w', i') ≠ (r, w, i)) : up M r w i k v r' w' i' k' = M r' w' i' k' := by
  unfold up
  rw [if_neg]
  rintro ⟨rfl, rfl, rfl, -⟩
  exact h rfl
theorem okM_up {M : Mem} {r w i k : Nat} {v : Int32} (h : okM M) (h1 : r ≠ 13) (h2 : ¬ (r = 17 ∧ k = 0)) : okM (up M r w i k v) := by
  refine ⟨fun w' i' => ?_, fun w' i' k' => ?_⟩
  · by_cases e : 17 = r ∧ w' = w ∧ i' = i ∧ 0 = k
    · exact absurd ⟨e.1.symm, e.2.2.2.symm⟩ h2
    · rw [up, if_neg e]
      exact h.1 w' i'
  · rw [up, if_neg (fun e => h1 e.1.symm)]
    exact h.2 w' i' k'
/-- a field of an object takes a value -/
theorem cell_put {ad : Loc3 → Nat} {cT : Nat → ClassId} {M : Mem} {r w i k ci N : Nat} {v : Int32} {x : Value} (hkd : kd r = (0, ci, N)) (hx : vO ad (gvF r w i k (up M r w i k v)) = x) :
    cellE ad cT (up M r w i k v) (r, w, i) = .inr (ci, ((List.range N).map fun k => vO ad (gvF r w i k M)).set k x) := by
  simp only [cellE, hkd, cellK]
  congr 2
  apply List.ext_getElem?
  intro j
  rw [List.getElem?_set]
  by_cases hj : k = j
  · subst hj
    by_cases hN : k < N
    · simp [hN, hx]
    · simp [hN]
  · rw [if_neg hj]
    by_cases hN : j < N
    · simp [hN, gvF_cong (up_k (M := M) (r := r) (w := w) (i := i) (v := v) (Ne.symm hj))]
    · simp [hN]
theorem cell_off {ad : Loc3 → Nat} {cT : Nat → ClassId} {M : Mem} {r w i k : Nat} {v : Int32} {p : Loc3} (h : p ≠ (r, w, i)) : cellE ad cT (up M r w i k v) p = cellE ad cT M p := cell_same fun j => up_r (by obtain ⟨a, b, c⟩ := p; exact h)
theorem in_Ls {E : EV} {r w i : Nat} (h : vA E.2.2.2 (aR (r, w, i))) (hr : r ≠ 27 ∧ r ≠ 28) : (r, w, i) ∈ Ls E.2.2.2 := by
  rcases h with h | h | h
  · exact h
  · cases h; exact absurd rfl hr.1
  · cases h; exact absurd rfl hr.2
theorem kd_no {r ci N : Nat} (h : kd r = (0, ci, N)) : r ≠ 27 ∧ r ≠ 28 := by
  constructor
  · rintro rfl; revert h; simp [kd, kdL]
  · rintro rfl; revert h; simp [kd, kdL]
section Oks3
variable {E : EV} {l : Launch} {d : Nat} {own : String} {bytes : ByteArray} {nL : Nat} {ret : Option FieldType} {α : Type} {out : α → AV × Mem} {b : Bool} {pc : Nat}
theorem ok_get {ci N r k idx : Nat} {C : String} {T : u_T} {ty : Nat → FieldType} {gv : Nat → Nat → Mem → AV} (hK : CK ci C T N ty) (hkd : kd r = (0, ci, N)) (hk : k < N) (hg : ∀ w i M, gv w i M = gvF r w i k M) (hv : ∀ w i M, okM M → (r, w, i) ∈ Ls E.2.2.2 → vA E.2.2.2 (gvF r w i k M)) (hl : Cond.fieldLink own idx (T k).1 (T k).2.1 (T k).2.2.1 ∈ tbT) (hd : decode bytes pc = .ok (.getfield idx, 3)) : SemOK E l d own bytes nL ret out (b, pc, 3, sGet r gv) := by
  intro p e s m args below meth c Cc nx jp rt als st M res h hn hj hr H locs ls hP hS hM hVa hVs hL
  simp only [sGet] at h
  split at h
  · rename_i r' w i st'
    split at h
    · rename_i hb
      have e1 : r' = r := Nat.eq_of_beq_eq_true hb
      subst e1
      have hm := in_Ls (hVs _ List.mem_cons_self) (kd_no hkd)
      obtain ⟨q0, hq0, he⟩ := wsE_at (M := M) hm
      simp only [cellE, hkd, cellK] at he
      rw [hg] at h
      exact va_get Cc.1 Cc.2.1 Cc.2.2.2.2.1 hK.2.1 Cc.2.2.2.1 Cc.2.2.2.2.2.2.2.1 hP q0 he hK.1 k hk (Cc.2.2.2.2.1 _ hl) (fun _ h9 => h9) (v := vO E.2.1 (gvF r' w i k M)) (by simp [hk]) hd (hn _ _ _ h H locs ls hP hS hM hVa (List.forall_mem_cons.mpr ⟨hv w i M hM hm, fun a ha => hVs a (List.mem_cons_of_mem _ ha)⟩) hL)
    · cases h
  · cases h
theorem ok_getN {ci N r k idx : Nat} {C host : String} {T : u_T} {ty : Nat → FieldType} {gv : Nat → Nat → Mem → AV} (hK : CK ci C T N ty) (hkd : kd r = (0, ci, N)) (hk : k < N) (hg : ∀ w i M, gv w i M = gvF r w i k M) (hv : ∀ w i M, okM M → (r, w, i) ∈ Ls E.2.2.2 → vA E.2.2.2 (gvF r w i k M)) (hl : Cond.fieldLinkNest own idx (T k).1 (T k).2.1 (T k).2.2.1 host ∈ tbT) (hd : decode bytes pc = .ok (.getfield idx, 3)) : SemOK E l d own bytes nL ret out (b, pc, 3, sGet r gv) := by
  intro p e s m args below meth c Cc nx jp rt als st M res h hn hj hr H locs ls hP hS hM hVa hVs hL
  simp only [sGet] at h
  split at h
  · rename_i r' w i st'
    split at h
    · rename_i hb
      have e1 : r' = r := Nat.eq_of_beq_eq_true hb
      subst e1
      have hm := in_Ls (hVs _ List.mem_cons_self) (kd_no hkd)
      obtain ⟨q0, hq0, he⟩ := wsE_at (M := M) hm
      simp only [cellE, hkd, cellK] at he
      rw [hg] at h
      exact va_getN Cc.1 Cc.2.1 Cc.2.2.2.2.1 hK.2.1 Cc.2.2.2.1 Cc.2.2.2.2.2.2.2.1 hP q0 he hK.1 k hk (Cc.2.2.2.2.1 _ hl) (fun _ h9 => h9) (v := vO E.2.1 (gvF r' w i k M)) (by simp [hk]) hd (hn _ _ _ h H locs ls hP hS hM hVa (List.forall_mem_cons.mpr ⟨hv w i M hM hm, fun a ha => hVs a (List.mem_cons_of_mem _ ha)⟩) hL)
    · cases h
  · cases h
theorem ok_put {ci N r k idx : Nat} {C : String} {T : u_T} {ty : Nat → FieldType} (hK : CK ci C T N ty) (hkd : kd r = (0, ci, N)) (hk : k < N) (hg : ∀ w i M, gvF r w i k M = aI (M r w i k)) (hf : (T k).2.2.2 = false) (hty : ty k = .int) (h13 : r ≠ 13 ∧ ¬ (r = 17 ∧ k = 0)) (hl : Cond.fieldLink own idx (T k).1 (T k).2.1 (T k).2.2.1 ∈ tbT) (hd : decode bytes pc = .ok (.putfield idx, 3)) : SemOK E l d own bytes nL ret out (b, pc, 3, sPut r k) := by
  intro p e s m args below meth c Cc nx jp rt als st M res h hn hj hr H locs ls hP hS hM hVa hVs hL
  simp only [sPut] at h
  split at h
  · rename_i v r' w i st'
    split at h
    · rename_i hb
      have e1 : r' = r := Nat.eq_of_beq_eq_true hb
      subst e1
      have hm := in_Ls (hVs _ (List.mem_cons_of_mem _ List.mem_cons_self)) (kd_no hkd)
      obtain ⟨q0, hq0, he⟩ := wsE_at (M := M) hm
      simp only [cellE, hkd, cellK] at he
      refine va_put Cc.1 Cc.2.1 Cc.2.2.2.2.1 hK.2.1 ty hK.2.2.1 hK.2.2.2 Cc.2.2.2.1 Cc.2.2.2.2.2.2.2.1 hP (wsE_D Cc.2.2.2.2.2.2.2.2.2 M) hS q0 he hK.1 k hk (Cc.2.2.2.2.1 _ hl) (fun _ h9 => h9) hf (by rw [hK.2.2.1 k hk, hty]) rfl rfl (by simp [hk]) hd (fun H1 locs1 hP1 hD1 hS1 => ?_)
      rw [wsE_set Cc.2.2.2.2.2.2.2.2.2 (M' := up M r' w i k v) hq0 (fun p _ hp => cell_off hp) (cell_put (x := vO E.2.1 (.inl v)) hkd (by rw [hg, up_same]))] at hP1
      exact hn _ _ _ h H1 locs1 ls hP1 hS1 (okM_up hM h13.1 h13.2) hVa (fun a ha => hVs a (List.mem_cons_of_mem _ (List.mem_cons_of_mem _ ha))) hL
    · cases h
  · cases h
theorem ok_putZ {ci N r k idx : Nat} {C : String} {T : u_T} {ty : Nat → FieldType} (hK : CK ci C T N ty) (hkd : kd r = (0, ci, N)) (hk : k < N) (hg : ∀ w i M, gvF r w i k M = aI (M r w i k)) (hf : (T k).2.2.2 = false) (hty : ty k = .boolean) (h13 : r ≠ 13 ∧ ¬ (r = 17 ∧ k = 0)) (hl : Cond.fieldLink own idx (T k).1 (T k).2.1 (T k).2.2.1 ∈ tbT) (hd : decode bytes pc = .ok (.putfield idx, 3)) : SemOK E l d own bytes nL ret out (b, pc, 3, sPutZ r k) := by
  intro p e s m args below meth c Cc nx jp rt als st M res h hn hj hr H locs ls hP hS hM hVa hVs hL
  simp only [sPutZ] at h
  split at h
  · rename_i v r' w i st'
    split at h
    · rename_i hb
      have e1 : r' = r := Nat.eq_of_beq_eq_true hb
      subst e1
      split at h
      · rename_i h01
        have hm := in_Ls (hVs _ (List.mem_cons_of_mem _ List.mem_cons_self)) (kd_no hkd)
        obtain ⟨q0, hq0, he⟩ := wsE_at (M := M) hm
        simp only [cellE, hkd, cellK] at he
        refine va_put Cc.1 Cc.2.1 Cc.2.2.2.2.1 hK.2.1 ty hK.2.2.1 hK.2.2.2 Cc.2.2.2.1 Cc.2.2.2.2.2.2.2.1 hP (wsE_D Cc.2.2.2.2.2.2.2.2.2 M) hS q0 he hK.1 k hk (Cc.2.2.2.2.1 _ hl) (fun _ h9 => h9) hf (by rw [hK.2.2.1 k hk, hty]) (by rcases h01 with rfl | rfl <;> rfl) (by rcases h01 with rfl | rfl <;> rfl) (by simp [hk]) hd (fun H1 locs1 hP1 hD1 hS1 => ?_)
        rw [wsE_set Cc.2.2.2.2.2.2.2.2.2 (M' := up M r' w i k v) hq0 (fun p _ hp => cell_off hp) (cell_put (x := vO E.2.1 (.inl v)) hkd (by rw [hg, up_same]))] at hP1
        exact hn _ _ _ h H1 locs1 ls hP1 hS1 (okM_up hM h13.1 h13.2) hVa (fun a ha => hVs a (List.mem_cons_of_mem _ (List.mem_cons_of_mem _ ha))) hL
      · cases h
    · cases h
  · cases h
theorem ok_putT {idx : Nat} (hK : CK 4 RX4 TX4 8 tyX4) (hsd : E.2.2.2 = 0) (hl : Cond.fieldLink own idx RX4 "text" "[B" ∈ tbT) (hd : decode bytes pc = .ok (.putfield idx, 3)) : SemOK E l d own bytes nL ret out (b, pc, 3, sPutT) := by
  intro p e s m args below meth c Cc nx jp rt als st M res h hn hj hr H locs ls hP hS hM hVa hVs hL
  simp only [sPutT] at h
  split at h
  · rename_i r2 w2 i2 r' w i st'
    split at h
    · rename_i hb
      rw [Bool.and_eq_true] at hb
      have e1 : r' = 17 := Nat.eq_of_beq_eq_true hb.1
      have e2 : r2 = 13 := Nat.eq_of_beq_eq_true hb.2
      subst e1
      subst e2
      split at h
      · rename_i hw
        subst hw
        have hm := in_Ls (hVs _ (List.mem_cons_of_mem _ List.mem_cons_self)) ⟨by decide, by decide⟩
        have hm2 := in_Ls (hVs _ List.mem_cons_self) ⟨by decide, by decide⟩
        have hi2 : i2 < 14 := (mem_Ls.mp hm2).2.2
        have hn2 : (Int32.ofNat i2).toNatClampNeg = i2 := nI_clamp (by omega)
        have hkd : kd 17 = (0, 4, 8) := by decide
        obtain ⟨q0, hq0, he⟩ := wsE_at (M := M) hm
        simp only [cellE, hkd, cellK] at he
        refine va_put (v := .ref (E.2.1 (13, w2, i2))) Cc.1 Cc.2.1 Cc.2.2.2.2.1 hK.2.1 tyX4 hK.2.2.1 hK.2.2.2 Cc.2.2.2.1 Cc.2.2.2.2.2.2.2.1 hP (wsE_D Cc.2.2.2.2.2.2.2.2.2 M) hS q0 he hK.1 0 (by decide) (Cc.2.2.2.2.1 _ hl) (fun _ h9 => h9) rfl (hK.2.2.1 0 (by decide)) rfl rfl (by simp) hd (fun H1 locs1 hP1 hD1 hS1 => ?_)
        rw [wsE_set Cc.2.2.2.2.2.2.2.2.2 (M' := up M 17 w2 i 0 (Int32.ofNat i2)) hq0 (fun p _ hp => cell_off hp) (cell_put hkd (by show vO E.2.1 (aR (13, w2, (up M 17 w2 i 0 (Int32.ofNat i2) 17 w2 i 0).toNatClampNeg)) = _; rw [up_same, hn2]; rfl))] at hP1
        refine hn _ _ _ h H1 locs1 ls hP1 hS1 ⟨fun w' i' => ?_, fun w' i' k' => ?_⟩ hVa (fun a ha => hVs a (List.mem_cons_of_mem _ (List.mem_cons_of_mem _ ha))) hL
        · by_cases e : (17, w', i') = ((17, w2, i) : Loc3)
          · cases e
            rw [up_same, hn2]
            exact hi2
          · rw [up_r e]
            exact hM.1 w' i'
        · rw [up_r (by intro e; cases e)]
          exact hM.2 w' i' k'
      · cases h
    · cases h
  · cases h
theorem vp_of {x : Int32} {n : Nat} (h : ¬ (x < 0 ∨ n ≤ x.toNatClampNeg)) : vp_in x n := h
theorem ok_iald {r n : Nat} (hkd : kd r = (1, n, 0)) (hr : r ≠ 27 ∧ r ≠ 28) (hd : decode bytes pc = .ok (.iaload, 1)) : SemOK E l d own bytes nL ret out (b, pc, 1, sIald r n) := by
  intro p e s m args below meth c Cc nx jp rt als st M res h hn hj hr' H locs ls hP hS hM hVa hVs hL
  simp only [sIald, ixx] at h
  split at h
  · rename_i x r' w i st'
    split at h
    · rename_i hb
      have e1 : r' = r := Nat.eq_of_beq_eq_true hb
      subst e1
      split at h
      · cases h
      · rename_i hx
        have hm := in_Ls (hVs _ (List.mem_cons_of_mem _ List.mem_cons_self)) hr
        obtain ⟨q0, hq0, he⟩ := wsE_at (M := M) hm
        simp only [cellE, hkd, cellK] at he
        exact va_iald Cc.1 Cc.2.1 Cc.2.2.2.2.2.2.2.1 hP q0 0 he rfl (vp_of hx) hd (hn _ _ _ h H locs ls hP hS hM hVa (List.forall_mem_cons.mpr ⟨trivial, fun a ha => hVs a (List.mem_cons_of_mem _ (List.mem_cons_of_mem _ ha))⟩) hL)
    · cases h
  · cases h
theorem upd_row (M : Mem) (r w i k : Nat) (v : Int32) : up M r w i k v r w i = upd (M r w i) k v := by
  funext j
  by_cases h : j = k
  · subst h; simp [up, upd]
  · simp [up, upd, h]
theorem ok_iast {r n : Nat} (hkd : kd r = (1, n, 0)) (hr : r ≠ 27 ∧ r ≠ 28) (h13 : r ≠ 13 ∧ r ≠ 17) (hd : decode bytes pc = .ok (.iastore, 1)) : SemOK E l d own bytes nL ret out (b, pc, 1, sIast r n) := by
  intro p e s m args below meth c Cc nx jp rt als st M res h hn hj hr' H locs ls hP hS hM hVa hVs hL
  simp only [sIast, ixx] at h
  split at h
  · rename_i v x r' w i st'
    split at h
    · rename_i hb
      have e1 : r' = r := Nat.eq_of_beq_eq_true hb
      subst e1
      split at h
      · cases h
      · rename_i hx
        have hm := in_Ls (hVs _ (List.mem_cons_of_mem _ (List.mem_cons_of_mem _ List.mem_cons_self))) hr
        obtain ⟨q0, hq0, he⟩ := wsE_at (M := M) hm
        simp only [cellE, hkd, cellK] at he
        refine va_iast Cc.1 Cc.2.1 Cc.2.2.2.2.2.2.2.1 hP (wsE_D Cc.2.2.2.2.2.2.2.2.2 M) hS q0 0 he rfl (vp_of hx) hd (fun H1 locs1 hP1 hD1 hS1 => ?_)
        rw [wsE_set Cc.2.2.2.2.2.2.2.2.2 (M' := up M r' w i x.toNatClampNeg v) hq0 (fun p _ hp => cell_off hp) (by simp only [cellE, hkd, cellK, upd_row])] at hP1
        exact hn _ _ _ h H1 locs1 ls hP1 hS1 (okM_up hM h13.1 (fun q => h13.2 q.1)) hVa (fun a ha => hVs a (List.mem_cons_of_mem _ (List.mem_cons_of_mem _ (List.mem_cons_of_mem _ ha)))) hL
    · cases h
  · cases h
theorem ok_bald (hd : decode bytes pc = .ok (.baload, 1)) : SemOK E l d own bytes nL ret out (b, pc, 1, sBald) := by
  intro p e s m args below meth c Cc nx jp rt als st M res h hn hj hr' H locs ls hP hS hM hVa hVs hL
  simp only [sBald, ixx] at h
  split at h
  · rename_i x r' w i st'
    split at h
    · rename_i hb
      have e1 : r' = 13 := Nat.eq_of_beq_eq_true hb
      subst e1
      split at h
      · cases h
      · rename_i hx
        have hkd : kd 13 = (2, 0, 0) := by decide
        have hm := in_Ls (hVs _ (List.mem_cons_of_mem _ List.mem_cons_self)) ⟨by decide, by decide⟩
        obtain ⟨q0, hq0, he⟩ := wsE_at (M := M) hm
        simp only [cellE, hkd, cellK] at he
        exact va_bald Cc.1 Cc.2.1 Cc.2.2.2.2.2.2.2.1 hP q0 1 he rfl (vp_of hx) hd (hn _ _ _ h H locs ls hP hS hM hVa (List.forall_mem_cons.mpr ⟨trivial, fun a ha => hVs a (List.mem_cons_of_mem _ (List.mem_cons_of_mem _ ha))⟩) hL)
    · cases h
  · cases h
theorem ok_bast (hd : decode bytes pc = .ok (.bastore, 1)) : SemOK E l d own bytes nL ret out (b, pc, 1, sBast) := by
  intro p e s m args below meth c Cc nx jp rt als st M res h hn hj hr' H locs ls hP hS hM hVa hVs hL
  simp only [sBast, ixx] at h
  split at h
  · rename_i v x r' w i st'
    split at h
    · rename_i hb
      have e1 : r' = 13 := Nat.eq_of_beq_eq_true hb
      subst e1
      split at h
      · cases h
      · rename_i hx
        have hkd : kd 13 = (2, 0, 0) := by decide
        have hm := in_Ls (hVs _ (List.mem_cons_of_mem _ (List.mem_cons_of_mem _ List.mem_cons_self))) ⟨by decide, by decide⟩
        obtain ⟨q0, hq0, he⟩ := wsE_at (M := M) hm
        simp only [cellE, hkd, cellK] at he
        refine va_bast Cc.1 Cc.2.1 Cc.2.2.2.2.2.2.2.1 hP (wsE_D Cc.2.2.2.2.2.2.2.2.2 M) hS q0 1 he rfl (vp_of hx) hd (fun H1 locs1 hP1 hD1 hS1 => ?_)
        rw [wsE_set Cc.2.2.2.2.2.2.2.2.2 (M' := up M 13 w i x.toNatClampNeg v.toInt8.toInt32) hq0 (fun p _ hp => cell_off hp) (by simp only [cellE, hkd, cellK, upd_row, vp_nar_byte])] at hP1
        refine hn _ _ _ h H1 locs1 ls hP1 hS1 ⟨fun w' i' => ?_, fun w' i' k' => ?_⟩ hVa (fun a ha => hVs a (List.mem_cons_of_mem _ (List.mem_cons_of_mem _ (List.mem_cons_of_mem _ ha)))) hL
        · rw [up_r (by intro e; cases e)]
          exact hM.1 w' i'
        · rw [up]
          split
          · exact pk_fb v
          · exact hM.2 w' i' k'
    · cases h
  · cases h
theorem ok_blen (hd : decode bytes pc = .ok (.arraylength, 1)) : SemOK E l d own bytes nL ret out (b, pc, 1, sBlen) := by
  intro p e s m args below meth c Cc nx jp rt als st M res h hn hj hr' H locs ls hP hS hM hVa hVs hL
  simp only [sBlen] at h
  split at h
  · rename_i r' w i st'
    split at h
    · rename_i hb
      have e1 : r' = 13 := Nat.eq_of_beq_eq_true hb
      subst e1
      have hkd : kd 13 = (2, 0, 0) := by decide
      have hm := in_Ls (hVs _ List.mem_cons_self) ⟨by decide, by decide⟩
      obtain ⟨q0, hq0, he⟩ := wsE_at (M := M) hm
      simp only [cellE, hkd, cellK] at he
      exact va_alen Cc.1 Cc.2.1 Cc.2.2.2.2.2.2.2.1 hP q0 1 he (ty := .byte) rfl rfl hd (hn _ _ _ h H locs ls hP hS hM hVa (List.forall_mem_cons.mpr ⟨trivial, fun a ha => hVs a (List.mem_cons_of_mem _ ha)⟩) hL)
    · cases h
  · cases h
theorem ok_aald {r n tr t0 : Nat} {C : String} (hkd : kd r = (3, tr, n)) (hr : r ≠ 27 ∧ r ≠ 28) (ht : (tysE E)[t0]? = some (E.2.2.1 tr, .object C)) (hv : ∀ w i k, (r, w, i) ∈ Ls E.2.2.2 → k < n → (tr, w, k) ∈ Ls E.2.2.2) (hd : decode bytes pc = .ok (.aaload, 1)) : SemOK E l d own bytes nL ret out (b, pc, 1, sAald r n tr) := by
  intro p e s m args below meth c Cc nx jp rt als st M res h hn hj hr' H locs ls hP hS hM hVa hVs hL
  simp only [sAald, ixx] at h
  split at h
  · rename_i x r' w i st'
    split at h
    · rename_i hb
      have e1 : r' = r := Nat.eq_of_beq_eq_true hb
      subst e1
      split at h
      · cases h
      · rename_i hx
        have hm := in_Ls (hVs _ (List.mem_cons_of_mem _ List.mem_cons_self)) hr
        obtain ⟨q0, hq0, he⟩ := wsE_at (M := M) hm
        simp only [cellE, hkd, cellK] at he
        have hlt : x.toNatClampNeg < n := Nat.not_le.mp fun q => hx (Or.inr q)
        exact va_aldq Cc.1 Cc.2.1 Cc.2.2.2.2.2.2.2.1 hP q0 t0 he ht (vp_of hx) hd (hn _ _ _ h H locs ls hP hS hM hVa (List.forall_mem_cons.mpr ⟨Or.inl (hv w i _ hm hlt), fun a ha => hVs a (List.mem_cons_of_mem _ (List.mem_cons_of_mem _ ha))⟩) hL)
    · cases h
  · cases h
end Oks3
