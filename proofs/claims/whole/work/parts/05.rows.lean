theorem vA_clr {sd : Nat} {als : List AV} {i : Nat} {a : AV} (hV : ∀ a ∈ als, vA sd a) (h : a ∈ clrL als i) : vA sd a := by
  rcases clr_mem h with q | q
  · exact hV a q
  · rcases a with x | x | x | x <;> first | trivial | cases q
section Oks2
variable {E : EV} {l : Launch} {d : Nat} {own : String} {bytes : ByteArray} {nL : Nat} {ret : Option FieldType} {α : Type} {out : α → AV × Mem} {b : Bool} {pc : Nat}
theorem ok_lload {i : Nat} (hd : decode bytes pc = .ok (.lload i, 2)) : SemOK E l d own bytes nL ret out (b, pc, 2, sLdL i) := by
  intro p e s m args below meth c C nx jp rt als st M res h hn hj hr H locs ls hP hS hM hVa hVs hL
  simp only [sLdL] at h
  split at h
  · rename_i x hx
    have h1 := hL.2.2.2 i (by rw [hx]; exact fun q => by cases q)
    rw [hx] at h1
    exact lv_lload C.1 C.2.1 hd h1 (hn _ _ _ h H locs ls hP hS hM hVa (List.forall_mem_cons.mpr ⟨trivial, hVs⟩) hL)
  · cases h
theorem ok_lload_n {k : Fin 4} {i : Nat} (hi : (k : Nat) = i) (hd : decode bytes pc = .ok (.lload_n k, 1)) : SemOK E l d own bytes nL ret out (b, pc, 1, sLdL i) := by
  intro p e s m args below meth c C nx jp rt als st M res h hn hj hr H locs ls hP hS hM hVa hVs hL
  simp only [sLdL] at h
  split at h
  · rename_i x hx
    have h1 := hL.2.2.2 i (by rw [hx]; exact fun q => by cases q)
    rw [hx] at h1
    exact lv_lload_n C.1 C.2.1 hd hi h1 (hn _ _ _ h H locs ls hP hS hM hVa (List.forall_mem_cons.mpr ⟨trivial, hVs⟩) hL)
  · cases h
theorem ok_aload {i : Nat} (hd : decode bytes pc = .ok (.aload i, 2)) : SemOK E l d own bytes nL ret out (b, pc, 2, sLdA i) := by
  intro p e s m args below meth c C nx jp rt als st M res h hn hj hr H locs ls hP hS hM hVa hVs hL
  simp only [sLdA] at h
  split at h
  · rename_i x hx
    have h1 := hL.2.2.2 i (by rw [hx]; exact fun q => by cases q)
    rw [hx] at h1
    exact lv_aload C.1 C.2.1 hd h1 (hn _ _ _ h H locs ls hP hS hM hVa (List.forall_mem_cons.mpr ⟨by have := hVa _ (nth_mem (als := als) (i := i) (by rw [hx]; exact fun q => by cases q)); rw [hx] at this; exact this, hVs⟩) hL)
  · cases h
theorem ok_aload_n {k : Fin 4} {i : Nat} (hi : (k : Nat) = i) (hd : decode bytes pc = .ok (.aload_n k, 1)) : SemOK E l d own bytes nL ret out (b, pc, 1, sLdA i) := by
  intro p e s m args below meth c C nx jp rt als st M res h hn hj hr H locs ls hP hS hM hVa hVs hL
  simp only [sLdA] at h
  split at h
  · rename_i x hx
    have h1 := hL.2.2.2 i (by rw [hx]; exact fun q => by cases q)
    rw [hx] at h1
    exact lv_aload_n C.1 C.2.1 hd hi h1 (hn _ _ _ h H locs ls hP hS hM hVa (List.forall_mem_cons.mpr ⟨by have := hVa _ (nth_mem (als := als) (i := i) (by rw [hx]; exact fun q => by cases q)); rw [hx] at this; exact this, hVs⟩) hL)
  · cases h
theorem ok_istore {i : Nat} (hb : i < nL) (hd : decode bytes pc = .ok (.istore i, 2)) : SemOK E l d own bytes nL ret out (b, pc, 2, sStI i) := by
  intro p e s m args below meth c C nx jp rt als st M res h hn hj hr H locs ls hP hS hM hVa hVs hL
  simp only [sStI] at h
  split at h
  · exact lv_istore C.1 C.2.1 hd hL.has hb rfl (fun ls' hl => hn _ _ _ h H locs ls' hP hS hM (fun a ha => by rcases set_mem ha with q | q; exact vA_clr hVa q; rw [q]; exact trivial) (fun a ha => hVs a (List.mem_cons_of_mem _ ha)) (hL.set hb hl))
  · cases h
theorem ok_istore_n {k : Fin 4} {i : Nat} (hi : (k : Nat) = i) (hb : i < nL) (hd : decode bytes pc = .ok (.istore_n k, 1)) : SemOK E l d own bytes nL ret out (b, pc, 1, sStI i) := by
  intro p e s m args below meth c C nx jp rt als st M res h hn hj hr H locs ls hP hS hM hVa hVs hL
  simp only [sStI] at h
  split at h
  · exact lv_istore_n C.1 C.2.1 hd hi hL.has hb rfl (fun ls' hl => hn _ _ _ h H locs ls' hP hS hM (fun a ha => by rcases set_mem ha with q | q; exact vA_clr hVa q; rw [q]; exact trivial) (fun a ha => hVs a (List.mem_cons_of_mem _ ha)) (hL.set hb hl))
  · cases h
theorem ok_astore {i : Nat} (hb : i < nL) (hd : decode bytes pc = .ok (.astore i, 2)) : SemOK E l d own bytes nL ret out (b, pc, 2, sStA i) := by
  intro p e s m args below meth c C nx jp rt als st M res h hn hj hr H locs ls hP hS hM hVa hVs hL
  simp only [sStA] at h
  split at h
  · exact lv_astore C.1 C.2.1 hd hL.has hb rfl (fun ls' hl => hn _ _ _ h H locs ls' hP hS hM (fun a ha => by rcases set_mem ha with q | q; exact vA_clr hVa q; rw [q]; exact hVs _ List.mem_cons_self) (fun a ha => hVs a (List.mem_cons_of_mem _ ha)) (hL.set hb hl))
  · cases h
theorem ok_astore_n {k : Fin 4} {i : Nat} (hi : (k : Nat) = i) (hb : i < nL) (hd : decode bytes pc = .ok (.astore_n k, 1)) : SemOK E l d own bytes nL ret out (b, pc, 1, sStA i) := by
  intro p e s m args below meth c C nx jp rt als st M res h hn hj hr H locs ls hP hS hM hVa hVs hL
  simp only [sStA] at h
  split at h
  · exact lv_astore_n C.1 C.2.1 hd hi hL.has hb rfl (fun ls' hl => hn _ _ _ h H locs ls' hP hS hM (fun a ha => by rcases set_mem ha with q | q; exact vA_clr hVa q; rw [q]; exact hVs _ List.mem_cons_self) (fun a ha => hVs a (List.mem_cons_of_mem _ ha)) (hL.set hb hl))
  · cases h
theorem ok_lstore {i : Nat} (hb : i + 1 < nL) (hd : decode bytes pc = .ok (.lstore i, 2)) : SemOK E l d own bytes nL ret out (b, pc, 2, sStL i) := by
  intro p e s m args below meth c C nx jp rt als st M res h hn hj hr H locs ls hP hS hM hVa hVs hL
  simp only [sStL] at h
  split at h
  · exact lv_lstore C.1 C.2.1 hd hL.has hb rfl (fun ls' hl => hn _ _ _ h H locs ls' hP hS hM (fun a ha => by rcases set_mem ha with q | q; rcases set_mem q with q | q; exact vA_clr hVa q; rw [q]; exact trivial; rw [q]; exact trivial) (fun a ha => hVs a (List.mem_cons_of_mem _ ha)) (hL.setL hb hl))
  · cases h
theorem ok_lstore_n {k : Fin 4} {i : Nat} (hi : (k : Nat) = i) (hb : i + 1 < nL) (hd : decode bytes pc = .ok (.lstore_n k, 1)) : SemOK E l d own bytes nL ret out (b, pc, 1, sStL i) := by
  intro p e s m args below meth c C nx jp rt als st M res h hn hj hr H locs ls hP hS hM hVa hVs hL
  simp only [sStL] at h
  split at h
  · exact lv_lstore_n C.1 C.2.1 hd hi hL.has hb rfl (fun ls' hl => hn _ _ _ h H locs ls' hP hS hM (fun a ha => by rcases set_mem ha with q | q; rcases set_mem q with q | q; exact vA_clr hVa q; rw [q]; exact trivial; rw [q]; exact trivial) (fun a ha => hVs a (List.mem_cons_of_mem _ ha)) (hL.setL hb hl))
  · cases h
theorem ok_iinc {i : Nat} {n : Int} {v : Int32} (hv : Int32.ofInt n = v) (hb : i < nL) (hd : decode bytes pc = .ok (.iinc i n, 3)) : SemOK E l d own bytes nL ret out (b, pc, 3, sInc i v) := by
  intro p e s m args below meth c C nx jp rt als st M res h hn hj hr H locs ls hP hS hM hVa hVs hL
  simp only [sInc] at h
  split at h
  · rename_i x hx
    · have hm : (i, Value.int x) ∈ lvl E.2.1 nL als := lvl_mem.mpr ⟨hb, (by rw [hx]; exact fun q => (by cases q)), (by rw [hx]; rfl)⟩
      obtain ⟨k, hk⟩ := List.getElem?_of_mem hm
      exact lv_iinc C.1 C.2.1 hd hL.has hk (by rw [hv]) hb rfl (fun ls' hl => hn _ _ _ h H locs ls' hP hS hM (fun a ha => by rcases set_mem ha with q | q; exact vA_clr hVa q; rw [q]; exact trivial) hVs (hL.set (v := aI (x + v)) hb hl))
  · cases h
theorem ok_iadd (hd : decode bytes pc = .ok (.iadd, 1)) : SemOK E l d own bytes nL ret out (b, pc, 1, sBin (fun x y => x + y)) := by
  intro p e s m args below meth c C nx jp rt als st M res h hn hj hr H locs ls hP hS hM hVa hVs hL
  simp only [sBin] at h
  split at h
  · exact lv_iadd C.1 C.2.1 hd (hn _ _ _ h H locs ls hP hS hM hVa (List.forall_mem_cons.mpr ⟨trivial, fun a ha => hVs a (List.mem_cons_of_mem _ (List.mem_cons_of_mem _ ha))⟩) hL)
  · cases h
theorem ok_isub (hd : decode bytes pc = .ok (.isub, 1)) : SemOK E l d own bytes nL ret out (b, pc, 1, sBin (fun x y => x - y)) := by
  intro p e s m args below meth c C nx jp rt als st M res h hn hj hr H locs ls hP hS hM hVa hVs hL
  simp only [sBin] at h
  split at h
  · exact lv_isub C.1 C.2.1 hd (hn _ _ _ h H locs ls hP hS hM hVa (List.forall_mem_cons.mpr ⟨trivial, fun a ha => hVs a (List.mem_cons_of_mem _ (List.mem_cons_of_mem _ ha))⟩) hL)
  · cases h
theorem ok_imul (hd : decode bytes pc = .ok (.imul, 1)) : SemOK E l d own bytes nL ret out (b, pc, 1, sBin (fun x y => x * y)) := by
  intro p e s m args below meth c C nx jp rt als st M res h hn hj hr H locs ls hP hS hM hVa hVs hL
  simp only [sBin] at h
  split at h
  · exact lv_imul C.1 C.2.1 hd (hn _ _ _ h H locs ls hP hS hM hVa (List.forall_mem_cons.mpr ⟨trivial, fun a ha => hVs a (List.mem_cons_of_mem _ (List.mem_cons_of_mem _ ha))⟩) hL)
  · cases h
theorem ok_iand (hd : decode bytes pc = .ok (.iand, 1)) : SemOK E l d own bytes nL ret out (b, pc, 1, sBin (fun x y => x &&& y)) := by
  intro p e s m args below meth c C nx jp rt als st M res h hn hj hr H locs ls hP hS hM hVa hVs hL
  simp only [sBin] at h
  split at h
  · exact lv_iand C.1 C.2.1 hd (hn _ _ _ h H locs ls hP hS hM hVa (List.forall_mem_cons.mpr ⟨trivial, fun a ha => hVs a (List.mem_cons_of_mem _ (List.mem_cons_of_mem _ ha))⟩) hL)
  · cases h
theorem ok_ior (hd : decode bytes pc = .ok (.ior, 1)) : SemOK E l d own bytes nL ret out (b, pc, 1, sBin (fun x y => x ||| y)) := by
  intro p e s m args below meth c C nx jp rt als st M res h hn hj hr H locs ls hP hS hM hVa hVs hL
  simp only [sBin] at h
  split at h
  · exact lv_ior C.1 C.2.1 hd (hn _ _ _ h H locs ls hP hS hM hVa (List.forall_mem_cons.mpr ⟨trivial, fun a ha => hVs a (List.mem_cons_of_mem _ (List.mem_cons_of_mem _ ha))⟩) hL)
  · cases h
theorem ok_ixor (hd : decode bytes pc = .ok (.ixor, 1)) : SemOK E l d own bytes nL ret out (b, pc, 1, sBin (fun x y => x ^^^ y)) := by
  intro p e s m args below meth c C nx jp rt als st M res h hn hj hr H locs ls hP hS hM hVa hVs hL
  simp only [sBin] at h
  split at h
  · exact lv_ixor C.1 C.2.1 hd (hn _ _ _ h H locs ls hP hS hM hVa (List.forall_mem_cons.mpr ⟨trivial, fun a ha => hVs a (List.mem_cons_of_mem _ (List.mem_cons_of_mem _ ha))⟩) hL)
  · cases h
theorem ok_ishl (hd : decode bytes pc = .ok (.ishl, 1)) : SemOK E l d own bytes nL ret out (b, pc, 1, sBin (fun x y => x <<< (y &&& 31))) := by
  intro p e s m args below meth c C nx jp rt als st M res h hn hj hr H locs ls hP hS hM hVa hVs hL
  simp only [sBin] at h
  split at h
  · exact lv_ishl C.1 C.2.1 hd (hn _ _ _ h H locs ls hP hS hM hVa (List.forall_mem_cons.mpr ⟨trivial, fun a ha => hVs a (List.mem_cons_of_mem _ (List.mem_cons_of_mem _ ha))⟩) hL)
  · cases h
theorem ok_ishr (hd : decode bytes pc = .ok (.ishr, 1)) : SemOK E l d own bytes nL ret out (b, pc, 1, sBin (fun x y => x >>> (y &&& 31))) := by
  intro p e s m args below meth c C nx jp rt als st M res h hn hj hr H locs ls hP hS hM hVa hVs hL
  simp only [sBin] at h
  split at h
  · exact lv_ishr C.1 C.2.1 hd (hn _ _ _ h H locs ls hP hS hM hVa (List.forall_mem_cons.mpr ⟨trivial, fun a ha => hVs a (List.mem_cons_of_mem _ (List.mem_cons_of_mem _ ha))⟩) hL)
  · cases h
theorem ok_iushr (hd : decode bytes pc = .ok (.iushr, 1)) : SemOK E l d own bytes nL ret out (b, pc, 1, sBin (fun x y => (x.toUInt32 >>> (y.toUInt32 &&& Int32.toUInt32 31)).toInt32)) := by
  intro p e s m args below meth c C nx jp rt als st M res h hn hj hr H locs ls hP hS hM hVa hVs hL
  simp only [sBin] at h
  split at h
  · exact lv_iushr C.1 C.2.1 hd rfl (hn _ _ _ h H locs ls hP hS hM hVa (List.forall_mem_cons.mpr ⟨trivial, fun a ha => hVs a (List.mem_cons_of_mem _ (List.mem_cons_of_mem _ ha))⟩) hL)
  · cases h
theorem ok_idiv (hd : decode bytes pc = .ok (.idiv, 1)) : SemOK E l d own bytes nL ret out (b, pc, 1, sBin0 (fun x y => x / y)) := by
  intro p e s m args below meth c C nx jp rt als st M res h hn hj hr H locs ls hP hS hM hVa hVs hL
  simp only [sBin0] at h
  split at h
  · split at h
    · cases h
    · rename_i hy
      exact lv_idiv C.1 C.2.1 hd hy (hn _ _ _ h H locs ls hP hS hM hVa (List.forall_mem_cons.mpr ⟨trivial, fun a ha => hVs a (List.mem_cons_of_mem _ (List.mem_cons_of_mem _ ha))⟩) hL)
  · cases h
theorem ok_irem (hd : decode bytes pc = .ok (.irem, 1)) : SemOK E l d own bytes nL ret out (b, pc, 1, sBin0 (fun x y => x - x / y * y)) := by
  intro p e s m args below meth c C nx jp rt als st M res h hn hj hr H locs ls hP hS hM hVa hVs hL
  simp only [sBin0] at h
  split at h
  · split at h
    · cases h
    · rename_i hy
      exact lv_irem C.1 C.2.1 hd hy (hn _ _ _ h H locs ls hP hS hM hVa (List.forall_mem_cons.mpr ⟨trivial, fun a ha => hVs a (List.mem_cons_of_mem _ (List.mem_cons_of_mem _ ha))⟩) hL)
  · cases h
theorem ok_ineg (hd : decode bytes pc = .ok (.ineg, 1)) : SemOK E l d own bytes nL ret out (b, pc, 1, sUn (fun x => -x)) := by
  intro p e s m args below meth c C nx jp rt als st M res h hn hj hr H locs ls hP hS hM hVa hVs hL
  simp only [sUn] at h
  split at h
  · exact lv_ineg C.1 C.2.1 hd (hn _ _ _ h H locs ls hP hS hM hVa (List.forall_mem_cons.mpr ⟨trivial, fun a ha => hVs a (List.mem_cons_of_mem _ ha)⟩) hL)
  · cases h
theorem ok_i2b (hd : decode bytes pc = .ok (.i2b, 1)) : SemOK E l d own bytes nL ret out (b, pc, 1, sUn (fun x => x.toInt8.toInt32)) := by
  intro p e s m args below meth c C nx jp rt als st M res h hn hj hr H locs ls hP hS hM hVa hVs hL
  simp only [sUn] at h
  split at h
  · exact lv_i2b C.1 C.2.1 hd rfl (hn _ _ _ h H locs ls hP hS hM hVa (List.forall_mem_cons.mpr ⟨trivial, fun a ha => hVs a (List.mem_cons_of_mem _ ha)⟩) hL)
  · cases h
theorem ok_i2s (hd : decode bytes pc = .ok (.i2s, 1)) : SemOK E l d own bytes nL ret out (b, pc, 1, sUn (fun x => x.toInt16.toInt32)) := by
  intro p e s m args below meth c C nx jp rt als st M res h hn hj hr H locs ls hP hS hM hVa hVs hL
  simp only [sUn] at h
  split at h
  · exact lv_i2s C.1 C.2.1 hd rfl (hn _ _ _ h H locs ls hP hS hM hVa (List.forall_mem_cons.mpr ⟨trivial, fun a ha => hVs a (List.mem_cons_of_mem _ ha)⟩) hL)
  · cases h
theorem ok_ladd (hd : decode bytes pc = .ok (.ladd, 1)) : SemOK E l d own bytes nL ret out (b, pc, 1, sBinL (fun x y => x + y)) := by
  intro p e s m args below meth c C nx jp rt als st M res h hn hj hr H locs ls hP hS hM hVa hVs hL
  simp only [sBinL] at h
  split at h
  · exact lv_ladd C.1 C.2.1 hd (hn _ _ _ h H locs ls hP hS hM hVa (List.forall_mem_cons.mpr ⟨trivial, fun a ha => hVs a (List.mem_cons_of_mem _ (List.mem_cons_of_mem _ ha))⟩) hL)
  · cases h
theorem ok_land (hd : decode bytes pc = .ok (.land, 1)) : SemOK E l d own bytes nL ret out (b, pc, 1, sBinL (fun x y => x &&& y)) := by
  intro p e s m args below meth c C nx jp rt als st M res h hn hj hr H locs ls hP hS hM hVa hVs hL
  simp only [sBinL] at h
  split at h
  · exact lv_land C.1 C.2.1 hd (hn _ _ _ h H locs ls hP hS hM hVa (List.forall_mem_cons.mpr ⟨trivial, fun a ha => hVs a (List.mem_cons_of_mem _ (List.mem_cons_of_mem _ ha))⟩) hL)
  · cases h
theorem ok_lor (hd : decode bytes pc = .ok (.lor, 1)) : SemOK E l d own bytes nL ret out (b, pc, 1, sBinL (fun x y => x ||| y)) := by
  intro p e s m args below meth c C nx jp rt als st M res h hn hj hr H locs ls hP hS hM hVa hVs hL
  simp only [sBinL] at h
  split at h
  · exact lv_lor C.1 C.2.1 hd (hn _ _ _ h H locs ls hP hS hM hVa (List.forall_mem_cons.mpr ⟨trivial, fun a ha => hVs a (List.mem_cons_of_mem _ (List.mem_cons_of_mem _ ha))⟩) hL)
  · cases h
theorem ok_lshl (hd : decode bytes pc = .ok (.lshl, 1)) : SemOK E l d own bytes nL ret out (b, pc, 1, sShL (fun x y => x <<< (y.toInt64 &&& 63))) := by
  intro p e s m args below meth c C nx jp rt als st M res h hn hj hr H locs ls hP hS hM hVa hVs hL
  simp only [sShL] at h
  split at h
  · exact lv_lshl C.1 C.2.1 hd rfl (hn _ _ _ h H locs ls hP hS hM hVa (List.forall_mem_cons.mpr ⟨trivial, fun a ha => hVs a (List.mem_cons_of_mem _ (List.mem_cons_of_mem _ ha))⟩) hL)
  · cases h
theorem ok_lshr (hd : decode bytes pc = .ok (.lshr, 1)) : SemOK E l d own bytes nL ret out (b, pc, 1, sShL (fun x y => x >>> (y.toInt64 &&& 63))) := by
  intro p e s m args below meth c C nx jp rt als st M res h hn hj hr H locs ls hP hS hM hVa hVs hL
  simp only [sShL] at h
  split at h
  · exact lv_lshr C.1 C.2.1 hd rfl (hn _ _ _ h H locs ls hP hS hM hVa (List.forall_mem_cons.mpr ⟨trivial, fun a ha => hVs a (List.mem_cons_of_mem _ (List.mem_cons_of_mem _ ha))⟩) hL)
  · cases h
theorem ok_lushr (hd : decode bytes pc = .ok (.lushr, 1)) : SemOK E l d own bytes nL ret out (b, pc, 1, sShL (fun x y => (x.toUInt64 >>> (y.toInt64.toUInt64 &&& Int64.toUInt64 63)).toInt64)) := by
  intro p e s m args below meth c C nx jp rt als st M res h hn hj hr H locs ls hP hS hM hVa hVs hL
  simp only [sShL] at h
  split at h
  · exact lv_lushr C.1 C.2.1 hd rfl (hn _ _ _ h H locs ls hP hS hM hVa (List.forall_mem_cons.mpr ⟨trivial, fun a ha => hVs a (List.mem_cons_of_mem _ (List.mem_cons_of_mem _ ha))⟩) hL)
  · cases h
theorem ok_i2l (hd : decode bytes pc = .ok (.i2l, 1)) : SemOK E l d own bytes nL ret out (b, pc, 1, sI2L) := by
  intro p e s m args below meth c C nx jp rt als st M res h hn hj hr H locs ls hP hS hM hVa hVs hL
  simp only [sI2L] at h
  split at h
  · exact lv_i2l C.1 C.2.1 hd rfl (hn _ _ _ h H locs ls hP hS hM hVa (List.forall_mem_cons.mpr ⟨trivial, fun a ha => hVs a (List.mem_cons_of_mem _ ha)⟩) hL)
  · cases h
theorem ok_l2i (hd : decode bytes pc = .ok (.l2i, 1)) : SemOK E l d own bytes nL ret out (b, pc, 1, sL2I) := by
  intro p e s m args below meth c C nx jp rt als st M res h hn hj hr H locs ls hP hS hM hVa hVs hL
  simp only [sL2I] at h
  split at h
  · exact lv_l2i C.1 C.2.1 hd rfl (hn _ _ _ h H locs ls hP hS hM hVa (List.forall_mem_cons.mpr ⟨trivial, fun a ha => hVs a (List.mem_cons_of_mem _ ha)⟩) hL)
  · cases h
theorem ok_lcmp (hd : decode bytes pc = .ok (.lcmp, 1)) : SemOK E l d own bytes nL ret out (b, pc, 1, sLcmp) := by
  intro p e s m args below meth c C nx jp rt als st M res h hn hj hr H locs ls hP hS hM hVa hVs hL
  simp only [sLcmp] at h
  split at h
  · exact W.lcmp C.1 C.2.1 hd (hn _ _ _ h H locs ls hP hS hM hVa (List.forall_mem_cons.mpr ⟨trivial, fun a ha => hVs a (List.mem_cons_of_mem _ (List.mem_cons_of_mem _ ha))⟩) hL)
  · cases h
theorem ok_dup (hd : decode bytes pc = .ok (.dup, 1)) : SemOK E l d own bytes nL ret out (b, pc, 1, sDup) := by
  intro p e s m args below meth c C nx jp rt als st M res h hn hj hr H locs ls hP hS hM hVa hVs hL
  simp only [sDup] at h
  split at h
  · split at h
    · cases h
    · rename_i ha
      exact lv_dup C.1 C.2.1 hd (cat_vO ha) (hn _ _ _ h H locs ls hP hS hM hVa (List.forall_mem_cons.mpr ⟨hVs _ List.mem_cons_self, hVs⟩) hL)
  · cases h
theorem ok_pop (hd : decode bytes pc = .ok (.pop, 1)) : SemOK E l d own bytes nL ret out (b, pc, 1, sPop) := by
  intro p e s m args below meth c C nx jp rt als st M res h hn hj hr H locs ls hP hS hM hVa hVs hL
  simp only [sPop] at h
  split at h
  · split at h
    · cases h
    · rename_i ha
      exact lv_pop C.1 C.2.1 hd (cat_vO ha) (hn _ _ _ h H locs ls hP hS hM hVa (fun a ha => hVs a (List.mem_cons_of_mem _ ha)) hL)
  · cases h
theorem ok_dup_x1 (hd : decode bytes pc = .ok (.dup_x1, 1)) : SemOK E l d own bytes nL ret out (b, pc, 1, sDupX1) := by
  intro p e s m args below meth c C nx jp rt als st M res h hn hj hr H locs ls hP hS hM hVa hVs hL
  simp only [sDupX1] at h
  split at h
  · split at h
    · cases h
    · rename_i ha
      rw [Bool.or_eq_false_iff] at ha
      exact lv_dup_x1 C.1 C.2.1 hd (cat_vO ha.1) (cat_vO ha.2) (hn _ _ _ h H locs ls hP hS hM hVa (by
        obtain ⟨h1, h2⟩ := List.forall_mem_cons.mp hVs
        obtain ⟨h2, h3⟩ := List.forall_mem_cons.mp h2
        exact List.forall_mem_cons.mpr ⟨h1, List.forall_mem_cons.mpr ⟨h2, List.forall_mem_cons.mpr ⟨h1, h3⟩⟩⟩) hL)
  · cases h
theorem ok_dup2 (hd : decode bytes pc = .ok (.dup2, 1)) : SemOK E l d own bytes nL ret out (b, pc, 1, sDup2) := by
  intro p e s m args below meth c C nx jp rt als st M res h hn hj hr H locs ls hP hS hM hVa hVs hL
  simp only [sDup2] at h
  split at h
  · split at h
    · cases h
    · rename_i ha
      rw [Bool.or_eq_false_iff] at ha
      exact lv_dup2_11 C.1 C.2.1 hd (cat_vO ha.1) (cat_vO ha.2) (hn _ _ _ h H locs ls hP hS hM hVa (by
        obtain ⟨h1, h2⟩ := List.forall_mem_cons.mp hVs
        obtain ⟨h2, h3⟩ := List.forall_mem_cons.mp h2
        exact List.forall_mem_cons.mpr ⟨h1, List.forall_mem_cons.mpr ⟨h2, List.forall_mem_cons.mpr ⟨h1, List.forall_mem_cons.mpr ⟨h2, h3⟩⟩⟩⟩) hL)
  · cases h
theorem ok_goto {off : Int} {t : Nat} (ht : (pc : Int) + off = (t : Int)) (hd : decode bytes pc = .ok (.goto off, 3)) : SemOK E l d own bytes nL ret out (b, pc, 3, sGoto t) := by
  intro p e s m args below meth c C nx jp rt als st M res h hn hj hr H locs ls hP hS hM hVa hVs hL
  exact lv_goto C.1 C.2.1 hd ht (hj _ _ _ _ h H locs ls hP hS hM hVa hVs hL)
theorem ok_if_eq {off : Int} {t : Nat} (ht : (pc : Int) + off = (t : Int)) (hd : decode bytes pc = .ok (.ifCond .eq off, 3)) : SemOK E l d own bytes nL ret out (b, pc, 3, sIfEq t) := by
  intro p e s m args below meth c C nx jp rt als st M res h hn hj hr H locs ls hP hS hM hVa hVs hL
  simp only [sIfEq] at h
  split at h
  · exact lv_if_eq C.1 C.2.1 hd ht (fun q => by rw [if_pos q] at h; exact hj _ _ _ _ h H locs ls hP hS hM hVa (fun a ha => hVs a (List.mem_cons_of_mem _ ha)) hL) (fun q => by rw [if_neg q] at h; exact hn _ _ _ h H locs ls hP hS hM hVa (fun a ha => hVs a (List.mem_cons_of_mem _ ha)) hL)
  · cases h
theorem ok_icmp_eq {off : Int} {t : Nat} (ht : (pc : Int) + off = (t : Int)) (hd : decode bytes pc = .ok (.if_icmp .eq off, 3)) : SemOK E l d own bytes nL ret out (b, pc, 3, sCmpEq t) := by
  intro p e s m args below meth c C nx jp rt als st M res h hn hj hr H locs ls hP hS hM hVa hVs hL
  simp only [sCmpEq] at h
  split at h
  · exact lv_icmp_eq C.1 C.2.1 hd ht (fun q => by rw [if_pos q] at h; exact hj _ _ _ _ h H locs ls hP hS hM hVa (fun a ha => hVs a (List.mem_cons_of_mem _ (List.mem_cons_of_mem _ ha))) hL) (fun q => by rw [if_neg q] at h; exact hn _ _ _ h H locs ls hP hS hM hVa (fun a ha => hVs a (List.mem_cons_of_mem _ (List.mem_cons_of_mem _ ha))) hL)
  · cases h
theorem ok_if_ne {off : Int} {t : Nat} (ht : (pc : Int) + off = (t : Int)) (hd : decode bytes pc = .ok (.ifCond .ne off, 3)) : SemOK E l d own bytes nL ret out (b, pc, 3, sIfNe t) := by
  intro p e s m args below meth c C nx jp rt als st M res h hn hj hr H locs ls hP hS hM hVa hVs hL
  simp only [sIfNe] at h
  split at h
  · exact lv_if_ne C.1 C.2.1 hd ht (fun q => by rw [if_neg q] at h; exact hj _ _ _ _ h H locs ls hP hS hM hVa (fun a ha => hVs a (List.mem_cons_of_mem _ ha)) hL) (fun q => by rw [if_pos q] at h; exact hn _ _ _ h H locs ls hP hS hM hVa (fun a ha => hVs a (List.mem_cons_of_mem _ ha)) hL)
  · cases h
theorem ok_icmp_ne {off : Int} {t : Nat} (ht : (pc : Int) + off = (t : Int)) (hd : decode bytes pc = .ok (.if_icmp .ne off, 3)) : SemOK E l d own bytes nL ret out (b, pc, 3, sCmpNe t) := by
  intro p e s m args below meth c C nx jp rt als st M res h hn hj hr H locs ls hP hS hM hVa hVs hL
  simp only [sCmpNe] at h
  split at h
  · exact lv_icmp_ne C.1 C.2.1 hd ht (fun q => by rw [if_neg q] at h; exact hj _ _ _ _ h H locs ls hP hS hM hVa (fun a ha => hVs a (List.mem_cons_of_mem _ (List.mem_cons_of_mem _ ha))) hL) (fun q => by rw [if_pos q] at h; exact hn _ _ _ h H locs ls hP hS hM hVa (fun a ha => hVs a (List.mem_cons_of_mem _ (List.mem_cons_of_mem _ ha))) hL)
  · cases h
theorem ok_if_lt {off : Int} {t : Nat} (ht : (pc : Int) + off = (t : Int)) (hd : decode bytes pc = .ok (.ifCond .lt off, 3)) : SemOK E l d own bytes nL ret out (b, pc, 3, sIfLt t) := by
  intro p e s m args below meth c C nx jp rt als st M res h hn hj hr H locs ls hP hS hM hVa hVs hL
  simp only [sIfLt] at h
  split at h
  · exact lv_if_lt C.1 C.2.1 hd ht (fun q => by rw [if_pos q] at h; exact hj _ _ _ _ h H locs ls hP hS hM hVa (fun a ha => hVs a (List.mem_cons_of_mem _ ha)) hL) (fun q => by rw [if_neg q] at h; exact hn _ _ _ h H locs ls hP hS hM hVa (fun a ha => hVs a (List.mem_cons_of_mem _ ha)) hL)
  · cases h
theorem ok_icmp_lt {off : Int} {t : Nat} (ht : (pc : Int) + off = (t : Int)) (hd : decode bytes pc = .ok (.if_icmp .lt off, 3)) : SemOK E l d own bytes nL ret out (b, pc, 3, sCmpLt t) := by
  intro p e s m args below meth c C nx jp rt als st M res h hn hj hr H locs ls hP hS hM hVa hVs hL
  simp only [sCmpLt] at h
  split at h
  · exact lv_icmp_lt C.1 C.2.1 hd ht (fun q => by rw [if_pos q] at h; exact hj _ _ _ _ h H locs ls hP hS hM hVa (fun a ha => hVs a (List.mem_cons_of_mem _ (List.mem_cons_of_mem _ ha))) hL) (fun q => by rw [if_neg q] at h; exact hn _ _ _ h H locs ls hP hS hM hVa (fun a ha => hVs a (List.mem_cons_of_mem _ (List.mem_cons_of_mem _ ha))) hL)
  · cases h
theorem ok_if_ge {off : Int} {t : Nat} (ht : (pc : Int) + off = (t : Int)) (hd : decode bytes pc = .ok (.ifCond .ge off, 3)) : SemOK E l d own bytes nL ret out (b, pc, 3, sIfGe t) := by
  intro p e s m args below meth c C nx jp rt als st M res h hn hj hr H locs ls hP hS hM hVa hVs hL
  simp only [sIfGe] at h
  split at h
  · exact lv_if_ge C.1 C.2.1 hd ht (fun q => by rw [if_neg (Int32.not_lt.mpr q)] at h; exact hj _ _ _ _ h H locs ls hP hS hM hVa (fun a ha => hVs a (List.mem_cons_of_mem _ ha)) hL) (fun q => by rw [if_pos (Int32.not_le.mp q)] at h; exact hn _ _ _ h H locs ls hP hS hM hVa (fun a ha => hVs a (List.mem_cons_of_mem _ ha)) hL)
  · cases h
theorem ok_icmp_ge {off : Int} {t : Nat} (ht : (pc : Int) + off = (t : Int)) (hd : decode bytes pc = .ok (.if_icmp .ge off, 3)) : SemOK E l d own bytes nL ret out (b, pc, 3, sCmpGe t) := by
  intro p e s m args below meth c C nx jp rt als st M res h hn hj hr H locs ls hP hS hM hVa hVs hL
  simp only [sCmpGe] at h
  split at h
  · exact lv_icmp_ge C.1 C.2.1 hd ht (fun q => by rw [if_neg (Int32.not_lt.mpr q)] at h; exact hj _ _ _ _ h H locs ls hP hS hM hVa (fun a ha => hVs a (List.mem_cons_of_mem _ (List.mem_cons_of_mem _ ha))) hL) (fun q => by rw [if_pos (Int32.not_le.mp q)] at h; exact hn _ _ _ h H locs ls hP hS hM hVa (fun a ha => hVs a (List.mem_cons_of_mem _ (List.mem_cons_of_mem _ ha))) hL)
  · cases h
theorem ok_if_gt {off : Int} {t : Nat} (ht : (pc : Int) + off = (t : Int)) (hd : decode bytes pc = .ok (.ifCond .gt off, 3)) : SemOK E l d own bytes nL ret out (b, pc, 3, sIfGt t) := by
  intro p e s m args below meth c C nx jp rt als st M res h hn hj hr H locs ls hP hS hM hVa hVs hL
  simp only [sIfGt] at h
  split at h
  · exact lv_if_gt C.1 C.2.1 hd ht (fun q => by rw [if_neg (Int32.not_le.mpr q)] at h; exact hj _ _ _ _ h H locs ls hP hS hM hVa (fun a ha => hVs a (List.mem_cons_of_mem _ ha)) hL) (fun q => by rw [if_pos (Int32.not_lt.mp q)] at h; exact hn _ _ _ h H locs ls hP hS hM hVa (fun a ha => hVs a (List.mem_cons_of_mem _ ha)) hL)
  · cases h
theorem ok_icmp_gt {off : Int} {t : Nat} (ht : (pc : Int) + off = (t : Int)) (hd : decode bytes pc = .ok (.if_icmp .gt off, 3)) : SemOK E l d own bytes nL ret out (b, pc, 3, sCmpGt t) := by
  intro p e s m args below meth c C nx jp rt als st M res h hn hj hr H locs ls hP hS hM hVa hVs hL
  simp only [sCmpGt] at h
  split at h
  · exact lv_icmp_gt C.1 C.2.1 hd ht (fun q => by rw [if_neg (Int32.not_le.mpr q)] at h; exact hj _ _ _ _ h H locs ls hP hS hM hVa (fun a ha => hVs a (List.mem_cons_of_mem _ (List.mem_cons_of_mem _ ha))) hL) (fun q => by rw [if_pos (Int32.not_lt.mp q)] at h; exact hn _ _ _ h H locs ls hP hS hM hVa (fun a ha => hVs a (List.mem_cons_of_mem _ (List.mem_cons_of_mem _ ha))) hL)
  · cases h
theorem ok_if_le {off : Int} {t : Nat} (ht : (pc : Int) + off = (t : Int)) (hd : decode bytes pc = .ok (.ifCond .le off, 3)) : SemOK E l d own bytes nL ret out (b, pc, 3, sIfLe t) := by
  intro p e s m args below meth c C nx jp rt als st M res h hn hj hr H locs ls hP hS hM hVa hVs hL
  simp only [sIfLe] at h
  split at h
  · exact lv_if_le C.1 C.2.1 hd ht (fun q => by rw [if_pos q] at h; exact hj _ _ _ _ h H locs ls hP hS hM hVa (fun a ha => hVs a (List.mem_cons_of_mem _ ha)) hL) (fun q => by rw [if_neg q] at h; exact hn _ _ _ h H locs ls hP hS hM hVa (fun a ha => hVs a (List.mem_cons_of_mem _ ha)) hL)
  · cases h
theorem ok_icmp_le {off : Int} {t : Nat} (ht : (pc : Int) + off = (t : Int)) (hd : decode bytes pc = .ok (.if_icmp .le off, 3)) : SemOK E l d own bytes nL ret out (b, pc, 3, sCmpLe t) := by
  intro p e s m args below meth c C nx jp rt als st M res h hn hj hr H locs ls hP hS hM hVa hVs hL
  simp only [sCmpLe] at h
  split at h
  · exact lv_icmp_le C.1 C.2.1 hd ht (fun q => by rw [if_pos q] at h; exact hj _ _ _ _ h H locs ls hP hS hM hVa (fun a ha => hVs a (List.mem_cons_of_mem _ (List.mem_cons_of_mem _ ha))) hL) (fun q => by rw [if_neg q] at h; exact hn _ _ _ h H locs ls hP hS hM hVa (fun a ha => hVs a (List.mem_cons_of_mem _ (List.mem_cons_of_mem _ ha))) hL)
  · cases h
end Oks2
