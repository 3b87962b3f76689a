/-! ===== the constructors' rows ===== -/
section OkCs
variable {E : EA} {l : Launch} {d mc ms : Nat} {own : String} {bytes : ByteArray} {nL : Nat} {pc : Nat}
theorem kc_const {n : Nat} {v : Int32} {ins : Instr} (hd : decode bytes pc = .ok (ins, n)) (hi : (∃ z, ins = .iconst z ∧ n = 1 ∧ Int32.ofInt z = v) ∨ (∃ z, ins = .bipush z ∧ n = 2 ∧ (Int8.ofInt z).toInt32 = v) ∨ (∃ z, ins = .sipush z ∧ n = 3 ∧ (Int16.ofInt z).toInt32 = v)) : OkC E l d mc ms own bytes nL (pc, .inl (cC pc n v)) := by
  intro p e s m args below meth c C X' σ pc' σ' h hw H locs ls hz hP hS hL
  obtain ⟨ls0, st, X, cc, sc⟩ := σ
  cases h
  rcases hi with ⟨z, rfl, rfl, hz1⟩ | ⟨z, rfl, rfl, hz1⟩ | ⟨z, rfl, rfl, hz1⟩
  · exact lv_iconst C.1 C.2.1 hd hz1 (hw H locs ls hz hP hS hL)
  · exact lv_bipush C.1 C.2.1 hd hz1 (hw H locs ls hz hP hS hL)
  · exact lv_sipush C.1 C.2.1 hd hz1 (hw H locs ls hz hP hS hL)
theorem kc_ldc {i : Nat} {v : Int32} (hc : Cond.constant own i v ∈ tbT) (hd : decode bytes pc = .ok (.ldc i, 2)) : OkC E l d mc ms own bytes nL (pc, .inl (cC pc 2 v)) := by
  intro p e s m args below meth c C X' σ pc' σ' h hw H locs ls hz hP hS hL
  obtain ⟨ls0, st, X, cc, sc⟩ := σ
  cases h
  exact lv_ldc C.1 C.2.1 C.2.2.2.1 (C.2.2.2.2.1 _ hc) hd (hw H locs ls hz hP hS hL)
theorem kc_iload {k : Fin 4} {i : Nat} (hi : (k : Nat) = i) (hd : decode bytes pc = .ok (.iload_n k, 1)) : OkC E l d mc ms own bytes nL (pc, .inl (cLd pc i)) := by
  intro p e s m args below meth c C X' σ pc' σ' h hw H locs ls hz hP hS hL
  obtain ⟨ls0, st, X, cc, sc⟩ := σ
  simp only [cLd] at h
  split at h
  · rename_i x hx
    cases h
    exact lv_iload_n C.1 C.2.1 hd hi (hL.2.2.2 i _ hx (fun q => by cases q)) (hw H locs ls hz hP hS hL)
  · cases h
theorem kc_aload {k : Fin 4} {i : Nat} (hi : (k : Nat) = i) (hd : decode bytes pc = .ok (.aload_n k, 1)) : OkC E l d mc ms own bytes nL (pc, .inl (cLdA pc i)) := by
  intro p e s m args below meth c C X' σ pc' σ' h hw H locs ls hz hP hS hL
  obtain ⟨ls0, st, X, cc, sc⟩ := σ
  simp only [cLdA] at h
  split at h
  · rename_i x hx
    cases h
    exact lv_aload_n C.1 C.2.1 hd hi (hL.2.2.2 i _ hx (fun q => by cases q)) (hw H locs ls hz hP hS hL)
  · cases h
theorem kc_istore {k : Fin 4} {i : Nat} (hi : (k : Nat) = i) (hb : i < nL) (hd : decode bytes pc = .ok (.istore_n k, 1)) : OkC E l d mc ms own bytes nL (pc, .inl (cSt pc i)) := by
  intro p e s m args below meth c C X' σ pc' σ' h hw H locs ls hz hP hS hL
  obtain ⟨ls0, st, X, cc, sc⟩ := σ
  simp only [cSt] at h
  split at h
  · rename_i _ x st'
    cases h
    exact lv_istore_n C.1 C.2.1 hd hi hL.has hb rfl (fun ls' hl => hw H locs ls' hz hP hS (hL.set hb hl))
  · cases h
theorem kc_iinc {i : Nat} (hb : i < nL) (hd : decode bytes pc = .ok (.iinc i 1, 3)) : OkC E l d mc ms own bytes nL (pc, .inl (cInc pc i)) := by
  intro p e s m args below meth c C X' σ pc' σ' h hw H locs ls hz hP hS hL
  obtain ⟨ls0, st, X, cc, sc⟩ := σ
  simp only [cInc] at h
  split at h
  · rename_i x hx
    cases h
    have hm : (i, Value.int x) ∈ lvc E.2.2 ls0 := lvc_mem.mpr ⟨_, hx, (fun q => by cases q), rfl⟩
    obtain ⟨k, hk⟩ := List.getElem?_of_mem hm
    exact lv_iinc C.1 C.2.1 hd hL.has hk rfl hb rfl (fun ls' hl => hw H locs ls' hz hP hS (hL.set (v := .inl (x + 1)) hb hl))
  · cases h
theorem kc_goto {off : Int} {t : Nat} (ht : (pc : Int) + off = (t : Int)) (hd : decode bytes pc = .ok (.goto off, 3)) : OkC E l d mc ms own bytes nL (pc, .inl (cGoto t)) := by
  intro p e s m args below meth c C X' σ pc' σ' h hw H locs ls hz hP hS hL
  cases h
  exact lv_goto C.1 C.2.1 hd ht (hw H locs ls hz hP hS hL)
theorem kc_ge {off : Int} {t : Nat} (ht : (pc : Int) + off = (t : Int)) (hd : decode bytes pc = .ok (.if_icmp .ge off, 3)) : OkC E l d mc ms own bytes nL (pc, .inl (cGe pc t)) := by
  intro p e s m args below meth c C X' σ pc' σ' h hw H locs ls hz hP hS hL
  obtain ⟨ls0, st, X, cc, sc⟩ := σ
  simp only [cGe] at h
  split at h
  · rename_i _ y x st'
    refine lv_icmp_ge C.1 C.2.1 hd ht (fun q => ?_) (fun q => ?_)
    · rw [if_pos q] at h
      cases h
      exact hw H locs ls hz hP hS hL
    · rw [if_neg q] at h
      cases h
      exact hw H locs ls hz hP hS hL
  · cases h
theorem kc_ne {off : Int} {t : Nat} (ht : (pc : Int) + off = (t : Int)) (hd : decode bytes pc = .ok (.if_icmp .ne off, 3)) : OkC E l d mc ms own bytes nL (pc, .inl (cNe pc t)) := by
  intro p e s m args below meth c C X' σ pc' σ' h hw H locs ls hz hP hS hL
  obtain ⟨ls0, st, X, cc, sc⟩ := σ
  simp only [cNe] at h
  split at h
  · rename_i _ y x st'
    refine lv_icmp_ne C.1 C.2.1 hd ht (fun q => ?_) (fun q => ?_)
    · rw [if_neg q] at h
      cases h
      exact hw H locs ls hz hP hS hL
    · rw [if_pos q] at h
      cases h
      exact hw H locs ls hz hP hS hL
  · cases h
theorem kc_div (hd : decode bytes pc = .ok (.idiv, 1)) : OkC E l d mc ms own bytes nL (pc, .inl (cBin0 pc (fun x y => x / y))) := by
  intro p e s m args below meth c C X' σ pc' σ' h hw H locs ls hz hP hS hL
  obtain ⟨ls0, st, X, cc, sc⟩ := σ
  simp only [cBin0] at h
  split at h
  · rename_i _ y x st'
    split at h
    · cases h
    · rename_i hy
      cases h
      exact lv_idiv C.1 C.2.1 hd hy (hw H locs ls hz hP hS hL)
  · cases h
theorem kc_rem (hd : decode bytes pc = .ok (.irem, 1)) : OkC E l d mc ms own bytes nL (pc, .inl (cBin0 pc (fun x y => x - x / y * y))) := by
  intro p e s m args below meth c C X' σ pc' σ' h hw H locs ls hz hP hS hL
  obtain ⟨ls0, st, X, cc, sc⟩ := σ
  simp only [cBin0] at h
  split at h
  · rename_i _ y x st'
    split at h
    · cases h
    · rename_i hy
      cases h
      exact lv_irem C.1 C.2.1 hd hy (hw H locs ls hz hP hS hL)
  · cases h
theorem kc_dup (hd : decode bytes pc = .ok (.dup, 1)) : OkC E l d mc ms own bytes nL (pc, .inl (cDup pc)) := by
  intro p e s m args below meth c C X' σ pc' σ' h hw H locs ls hz hP hS hL
  obtain ⟨ls0, st, X, cc, sc⟩ := σ
  simp only [cDup] at h
  split at h
  · rename_i _ a st'
    cases h
    exact lv_dup C.1 C.2.1 hd (vc_cat _ _) (hw H locs ls hz hP hS hL)
  · cases h
theorem cellA_obj {B : Nat} {cT : Nat → ClassId} {ci : Nat} {fs : List CV} (h : ci < 100) : cellA B cT (ci, fs) = .inr (ci, fs.map (cvV B)) := by
  unfold cellA
  rw [if_pos h]
theorem kc_new {ci N idx : Nat} {C : String} {T : u_T} {ty : Nat → FieldType} {fs : List CV} (hK : CK ci C T N ty) (hci : ci < 100) (hfl : fs.length = N) (hfs : ∀ j, j < N → ∀ B, defaultValue (ty j) = vp_V (fs.map (cvV B)) j) (hl : Cond.classLink own idx C ∈ tbT) (hin : Cond.instantiable C N ∈ tbT) (hini : Cond.initialized C ∈ tbT) (hd : decode bytes pc = .ok (.new idx, 3)) : OkC E l d mc ms own bytes nL (pc, .inl (cNew pc ci fs mc ms)) := by
  intro p e s m args below meth c C X' σ pc' σ' h hw H locs ls hz hP hS hL
  obtain ⟨ls0, st, X, cc, sc⟩ := σ
  simp only [cNew] at h
  split at h
  · rename_i hcs
    cases h
    subst hfl
    have hKn := C.2.2.2.2.2.2.2.1.1 ci _ hK.1
    refine W.newcK C.1 C.2.1 C.2.2.2.1 (C.2.2.2.2.1 _ hl) (C.2.2.2.2.1 _ hin) (C.2.2.2.2.1 _ hini) rfl hd hcs.1 hcs.2 hKn.2.1 hz fun H1 kC hkC e1 z1 o1 => ?_
    have hk : ∀ (k : Nat) (x : Nat × va_E), (wsA E.2.2 E.2.1 X)[k]? = some x → H1[x.1]? = H[x.1]? := fun k x hx => o1 x.1 (by rw [← hz]; exact (hP k x hx).lt)
    refine hw H1 locs ls (by rw [z1]; simp; omega) ?_ ⟨by have := hS.1; omega, fun q h1 h2 => ?_, hS.2.2⟩ hL
    · show va_P E.1 cls (wsA E.2.2 E.2.1 (X ++ [(ci, fs)])) H1
      rw [wsA_app, cellA_obj hci]
      refine (hP.kept hk).app (fun k x hx => ?_)
      have hz : k < 1 := (List.getElem?_eq_some_iff.mp hx).1
      rw [show k = 0 by omega] at hx
      cases hx
      exact ⟨_, hK.1, (u_born ty C.2.2.2.2.1 hK.2.1 hKn hkC e1 hK.2.2.1).to (fun j hj => hfs j hj _)⟩
    · rw [o1 q (by have := hS.1; omega)]
      exact hS.2.1 q h1 h2
  · cases h
theorem cA_same {U : State} {nm : String} {a b : ClassId} (h1 : U.vm.findClass nm = some a) (h2 : U.vm.findClass nm = some b) : a = b := Option.some.inj (h1.symm.trans h2)
theorem rep_get {v : CV} {n k : Nat} {dv : CV} : (List.replicate n v).getD k dv = if k < n then v else dv := by
  rw [List.getD_eq_getElem?_getD, List.getElem?_replicate]
  split <;> simp [*]
theorem kc_newI {atype : ArrayType} {ty : FieldType} {code t0 : Nat} (hty : newarray.typeOf atype = ty) (h2 : (atype = .int ∧ ty = .int ∧ code = 100 ∧ t0 = 0) ∨ (atype = .byte ∧ ty = .byte ∧ code = 101 ∧ t0 = 1)) (harr : Cond.arrayClass ty ∈ tbT) (hd : decode bytes pc = .ok (.newarray atype, 2)) : OkC E l d mc ms own bytes nL (pc, .inl (cNewa pc 2 code (.inl 0) mc ms)) := by
  intro p e s m args below meth c C X' σ pc' σ' h hw H locs ls hz hP hS hL
  obtain ⟨ls0, st, X, cc, sc⟩ := σ
  simp only [cNewa] at h
  split at h
  · rename_i _ n st'
    split at h
    · cases h
    · rename_i hcs
      simp only [not_or, Nat.not_lt] at hcs
      cases h
      have hb : n.toNatClampNeg * componentBytes (newarray.typeOf atype) ≤ 536870912 := by
        have h3 : componentBytes (newarray.typeOf atype) ≤ 4 := by rcases h2 with ⟨rfl, -⟩ | ⟨rfl, -⟩ <;> decide
        have h4 := Nat.mul_le_mul hcs.2.1 h3
        omega
      refine va_newaK C.1 C.2.1 (by rw [hty]; exact C.2.2.2.2.1 _ harr) rfl hd rfl hcs.1 rfl hb hcs.2.2.1 hcs.2.2.2 hz fun H1 cA e1 z1 o1 hAr hNm => ?_
      have hk : ∀ (k : Nat) (x : Nat × va_E), (wsA E.2.2 E.2.1 X)[k]? = some x → H1[x.1]? = H[x.1]? := fun k x hx => o1 x.1 (by rw [← hz]; exact (hP k x hx).lt)
      refine hw H1 locs ls (by rw [z1]; simp; omega) ?_ ⟨by have := hS.1; omega, fun q h1 h2 => ?_, hS.2.2⟩ hL
      · show va_P E.1 cls (wsA E.2.2 E.2.1 (X ++ [(code, List.replicate n.toNatClampNeg (.inl 0))])) H1
        rw [wsA_app]
        refine (hP.kept hk).app (fun k x hx => ?_)
        have hz : k < 1 := (List.getElem?_eq_some_iff.mp hx).1
        rw [show k = 0 by omega] at hx
        cases hx
        have hrow : (fun k => cvI ((List.replicate n.toNatClampNeg (.inl 0 : CV)).getD k (.inl 0))) = fun _ => (0 : Int32) := by
          funext k
          rw [rep_get]
          split <;> rfl
        rcases h2 with ⟨rfl, rfl, rfl, rfl⟩ | ⟨rfl, rfl, rfl, rfl⟩
        · have hc := cA_same hNm ((C.2.2.2.2.2.2.2.1.2 0 _ rfl).2)
          subst hc
          show H1[E.2.2 + X.length]? = some (vp_cell _ _)
          rw [e1]
          simp only [List.length_replicate, hrow]
          rfl
        · have hc := cA_same hNm ((C.2.2.2.2.2.2.2.1.2 1 _ rfl).2)
          subst hc
          show H1[E.2.2 + X.length]? = some (vp_cell _ _)
          rw [e1]
          simp only [List.length_replicate, hrow]
          rfl
      · rw [o1 q (by have := hS.1; omega)]
        exact hS.2.1 q h1 h2
  · cases h
theorem kc_newR {tr t0 idx : Nat} {C : String} (ht : (tysA E)[t0]? = some (E.2.1 tr, .object C)) (hov : ∀ U, AOs U → va_AO C U) (hl : Cond.classLink own idx C ∈ tbT) (hd : decode bytes pc = .ok (.anewarray idx, 3)) : OkC E l d mc ms own bytes nL (pc, .inl (cNewa pc 3 (200 + tr) (.inr none) mc ms)) := by
  intro p e s m args below meth c C X' σ pc' σ' h hw H locs ls hz hP hS hL
  obtain ⟨ls0, st, X, cc, sc⟩ := σ
  simp only [cNewa] at h
  split at h
  · rename_i _ n st'
    split at h
    · cases h
    · rename_i hcs
      simp only [not_or, Nat.not_lt] at hcs
      cases h
      refine W.anew C.1 C.2.1 C.2.2.2.1 (C.2.2.2.2.1 _ hl) (va_AO.use (hov _ C.2.2.2.2.2.2.2.2.1)) rfl hd rfl hcs.1 (by omega) hcs.2.2.1 hcs.2.2.2 fun cA kA comp f1 f2 f3 f4 => ?_
      generalize hH1 : H.push ({ cls := cA, slots := Array.replicate n.toNatClampNeg .null, vm := .none } : Cell) = H1
      have z1 : H1.size = H.size + 1 := by rw [← hH1, Array.size_push]
      have e1 : H1[H.size]? = some (arrV cA n.toNatClampNeg (fun _ => .null)) := by rw [← hH1, Array.getElem?_push_size, ← arrV_new]
      have o1 : ∀ q : Nat, q < H.size → H1[q]? = H[q]? := fun q hq => by rw [← hH1, Array.getElem?_push, if_neg (Nat.ne_of_lt hq)]
      have hk : ∀ (k : Nat) (x : Nat × va_E), (wsA E.2.2 E.2.1 X)[k]? = some x → H1[x.1]? = H[x.1]? := fun k x hx => o1 x.1 ((hP k x hx).lt)
      have z2 : s.heap.size ≤ H1.size := by have := hS.1; omega
      rw [hz] at *
      refine hw H1 locs ls (by rw [z1]; simp; omega) ?_ ⟨z2, fun q h1 h2 => ?_, hS.2.2⟩ hL
      · show va_P E.1 cls (wsA E.2.2 E.2.1 (X ++ [(200 + tr, List.replicate n.toNatClampNeg (.inr none))])) H1
        rw [wsA_app]
        refine (hP.kept hk).app (fun k x hx => ?_)
        have hz : k < 1 := (List.getElem?_eq_some_iff.mp hx).1
        rw [show k = 0 by omega] at hx
        cases hx
        obtain ⟨kA', comp', g1, g2, g3, g4⟩ := (C.2.2.2.2.2.2.2.1.2 t0 _ ht).2
        have hc := cA_same f1 g4
        subst hc
        have hcell : cellA E.2.2 E.2.1 (200 + tr, List.replicate n.toNatClampNeg (.inr none)) = .inl (E.2.1 tr, n.toNatClampNeg, .inr (.inr (.inr (.inr fun _ => none)))) := by
          unfold cellA
          rw [if_neg (by show ¬ 200 + tr < 100; omega), if_neg (by show ¬ 200 + tr = 100; omega), if_neg (by show ¬ 200 + tr = 101; omega)]
          have hrow : (fun k => (cvR ((List.replicate n.toNatClampNeg (.inr none : CV)).getD k (.inr none))).map (E.2.2 + ·)) = fun _ => (none : Option Nat) := by
            funext k
            rw [rep_get]
            split <;> rfl
          simp only [List.length_replicate, hrow]
          rw [show 200 + tr - 200 = tr by omega]
        rw [hcell]
        show H1[E.2.2 + X.length]? = some (vp_cell _ _)
        rw [vp_cell_q]
        exact e1
      · rw [o1 q (by have := hS.1; omega)]
        exact hS.2.1 q h1 h2
  · cases h
theorem kc_get {ci N k idx : Nat} {C : String} {T : u_T} {ty : Nat → FieldType} (hK : CK ci C T N ty) (hci : ci < 100) (hk : k < N) (hl : Cond.fieldLink own idx (T k).1 (T k).2.1 (T k).2.2.1 ∈ tbT) (hd : decode bytes pc = .ok (.getfield idx, 3)) : OkC E l d mc ms own bytes nL (pc, .inl (cGet pc ci k)) := by
  intro p e s m args below meth c C X' σ pc' σ' h hw H locs ls hz hP hS hL
  obtain ⟨ls0, st, X, cc, sc⟩ := σ
  simp only [cGet] at h
  split at h
  · rename_i _ j st'
    split at h
    · rename_i c0 fs hj
      split at h
      · rename_i hc
        subst hc
        have he : (wsA E.2.2 E.2.1 X)[j]? = some (E.2.2 + j, .inr (c0, fs.map (cvV E.2.2))) := by
          rw [wsA_at]
          rw [hj]
          simp [cellA_obj hci]
        split at h
        · rename_i x hx
          cases h
          exact va_get C.1 C.2.1 C.2.2.2.2.1 hK.2.1 C.2.2.2.1 C.2.2.2.2.2.2.2.1 hP j he hK.1 k hk (C.2.2.2.2.1 _ hl) (fun _ h9 => h9) (v := .int x) (by simp [hx, cvV]) hd (hw H locs ls hz hP hS hL)
        · rename_i x hx
          cases h
          refine va_get C.1 C.2.1 C.2.2.2.2.1 hK.2.1 C.2.2.2.1 C.2.2.2.2.2.2.2.1 hP j he hK.1 k hk (C.2.2.2.2.1 _ hl) (fun _ h9 => h9) (v := vcV E.2.2 (.inr (.inl x))) ?_ hd (hw H locs ls hz hP hS hL)
          cases x <;> simp [hx, cvV, vcV]
        · cases h
      · cases h
    · cases h
  · cases h
theorem set_map {B : Nat} {fs : List CV} {k : Nat} {v : CV} {x : Value} (h : cvV B v = x) : (fs.map (cvV B)).set k x = (fs.set k v).map (cvV B) := by
  rw [List.map_set, h]
/-- a final field takes a value: the heap is as large as before -/
theorem fin_put {p : Program} {e : Env} {R : Room} {s : State} {m : MethodId} {args : Array Value} {below : List Frame} {meth : Method} {c : Code} {H : Heap} {locs : List Loc} {cells slots : Nat} {Q : State → Prop} {ls : Array Slot} {rest : List Value} {D : va_G} {tys : List (ClassId × FieldType)} {ws : va_W} {A : Nat → Prop} {H0 : Heap} {a ci N k idx j : Nat} {C : String} {T : u_T} {ty : Nat → FieldType} {fs : List Value} {v : Value}
    (hx : p.tables.exec = Jvm.exec) (hb : c.code = bytes) (hts : ∀ w ∈ tbT, w.before args s = true) (hown : s.vm.findClass own = some m.cls) (hKn : va_K D cls tys s) (hP : va_P D cls ws H) (hD : va_D A ws) (hS : va_S A H0 H locs) (hname : meth.name = "<init>") (hK : CK ci C T N ty) (hk : k < N) (he : ws[j]? = some (a, .inr (ci, fs))) (hn : narrow (ty k) v = v) (hfit : fits (ty k) v = true) (hfin : (T k).2.2.2 = true) (hdecl : (T k).1 = own) (hkl : k < fs.length) (hl : Cond.fieldLink own idx (T k).1 (T k).2.1 (T k).2.2.1 ∈ tbT) (hd : decode bytes pc = .ok (.putfield idx, 3))
    (kk : ∀ (H1 : Heap) (locs1 : List Loc), H1.size = H.size → va_P D cls (ws.set j (a, .inr (ci, fs.set k v))) H1 → va_S A H0 H1 locs1 → W p l e R s m args below meth c H1 locs1 cells slots Q (F0 m (pc + 3) ls rest)) : W p l e R s m args below meth c H locs cells slots Q (F0 m pc ls (v :: .ref a :: rest)) := by
  have hap := va_apart (own := own) hts hK.2.1 ty hK.2.2.1 hK.2.2.2 hKn hK.1
  obtain ⟨r, h1, cell, q1, q2, q3, q4⟩ := hP j _ he
  have hr : r = (C, T, N) := Option.some.inj (h1.symm.trans hK.1)
  subst hr
  obtain ⟨hSl, hfc, kC, hkC, hkind⟩ := hKn.1 ci _ hK.1
  obtain ⟨cf, kf, fi, f, hi, hsl⟩ := hSl k hk
  have hlay := hts _ (hK.2.1 _ (u_in_lay hk))
  unfold u_lay at hlay
  rw [if_pos hfin] at hlay
  have hst := (u_facts hfc hkC (u_lays hts hK.2.1 hk) hi).1
  have hcf : m.cls = cf := by
    obtain ⟨_, _, c', _, _, _, -, -, hf', -, -, -, hown2, -⟩ := Cond.laysFinal_spec hlay
    have e1 : c' = cf := by have := hi.symm.trans hf'; simp at this; exact this.1.symm
    rw [hdecl] at hown2
    rw [← e1]
    exact Option.some.inj (hown.symm.trans hown2)
  have h6 := u_fits hfc hkC hkind (Or.inr hlay) hi (hK.2.2.1 k hk) hn hfit
  refine W.putFinK hx hb hown (hts _ hl) hi hst hcf hname (by rw [q2]; exact h6) q1 q3 (by rw [hsl]; exact k2_hasslot (q4 k hk)) rfl rfl hd fun H' e1 e2 e3 => ?_
  rw [hsl] at e1 ⊢
  exact kk H' _ e2 (hP.set hD he ⟨_, hK.1, t_OB.to (V := updV (vp_V fs) k v) ⟨_, e1, q2, q3, t_set q4 hap hk v⟩ (fun i _ => vp_updV_set hkl v i)⟩ e3) (hS.put e2 e3 (hD.2 j _ he))
/-- a field that isn't final -/
theorem var_put {p : Program} {e : Env} {R : Room} {s : State} {m : MethodId} {args : Array Value} {below : List Frame} {meth : Method} {c : Code} {H : Heap} {locs : List Loc} {cells slots : Nat} {Q : State → Prop} {ls : Array Slot} {rest : List Value} {D : va_G} {tys : List (ClassId × FieldType)} {ws : va_W} {A : Nat → Prop} {H0 : Heap} {a ci N k idx j : Nat} {C : String} {T : u_T} {ty : Nat → FieldType} {fs : List Value} {v : Value}
    (hx : p.tables.exec = Jvm.exec) (hb : c.code = bytes) (hts : ∀ w ∈ tbT, w.before args s = true) (hown : s.vm.findClass own = some m.cls) (hKn : va_K D cls tys s) (hP : va_P D cls ws H) (hD : va_D A ws) (hS : va_S A H0 H locs) (hK : CK ci C T N ty) (hk : k < N) (he : ws[j]? = some (a, .inr (ci, fs))) (hn : narrow (ty k) v = v) (hfit : fits (ty k) v = true) (hfin : (T k).2.2.2 = false) (hkl : k < fs.length) (hl : Cond.fieldLink own idx (T k).1 (T k).2.1 (T k).2.2.1 ∈ tbT) (hd : decode bytes pc = .ok (.putfield idx, 3))
    (kk : ∀ (H1 : Heap) (locs1 : List Loc), H1.size = H.size → va_P D cls (ws.set j (a, .inr (ci, fs.set k v))) H1 → va_S A H0 H1 locs1 → W p l e R s m args below meth c H1 locs1 cells slots Q (F0 m (pc + 3) ls rest)) : W p l e R s m args below meth c H locs cells slots Q (F0 m pc ls (v :: .ref a :: rest)) := by
  have hap := va_apart (own := own) hts hK.2.1 ty hK.2.2.1 hK.2.2.2 hKn hK.1
  obtain ⟨r, h1, cell, q1, q2, q3, q4⟩ := hP j _ he
  have hr : r = (C, T, N) := Option.some.inj (h1.symm.trans hK.1)
  subst hr
  obtain ⟨hSl, hfc, kC, hkC, hkind⟩ := hKn.1 ci _ hK.1
  obtain ⟨cf, kf, fi, f, hi, hsl⟩ := hSl k hk
  have hlay := hts _ (hK.2.1 _ (u_in_lay hk))
  unfold u_lay at hlay
  rw [if_neg (by rw [hfin]; decide)] at hlay
  have hst := (u_facts hfc hkC (u_lays hts hK.2.1 hk) hi).1
  have h6 := u_store hfc hkC hkind hlay hi (hK.2.2.1 k hk) hn hfit
  refine W.putK hx hb (f := f) ⟨hown, hts _ hl, ⟨_, _, _, hi⟩, hst⟩ (by rw [q2]; exact h6) q1 q3 (by rw [hsl]; exact k2_hasslot (q4 k hk)) rfl rfl hd fun H' e1 e2 e3 => ?_
  rw [hsl] at e1 ⊢
  exact kk H' _ e2 (hP.set hD he ⟨_, hK.1, t_OB.to (V := updV (vp_V fs) k v) ⟨_, e1, q2, q3, t_set q4 hap hk v⟩ (fun i _ => vp_updV_set hkl v i)⟩ e3) (hS.put e2 e3 (hD.2 j _ he))
theorem kc_put {ci N k idx : Nat} {C : String} {T : u_T} {ty : Nat → FieldType} (hK : CK ci C T N ty) (hci : ci < 100) (hk : k < N) (hty : (∃ n, ty k = .object n) ∨ ∃ t, ty k = .array t) (hf : (T k).2.2.2 = false ∨ ((T k).2.2.2 = true ∧ (T k).1 = own)) (hl : Cond.fieldLink own idx (T k).1 (T k).2.1 (T k).2.2.1 ∈ tbT) (hd : decode bytes pc = .ok (.putfield idx, 3)) : OkC E l d mc ms own bytes nL (pc, .inl (cPut pc ci k)) := by
  intro p e s m args below meth c C X' σ pc' σ' h hw H locs ls hz hP hS hL
  obtain ⟨ls0, st, X, cc, sc⟩ := σ
  simp only [cPut] at h
  split at h
  · rename_i _ v j st'
    split at h
    · rename_i c0 fs hj
      split at h
      · rename_i hc
        obtain ⟨rfl, hkl⟩ := hc
        cases h
        have he : (wsA E.2.2 E.2.1 X)[j]? = some (E.2.2 + j, .inr (c0, fs.map (cvV E.2.2))) := by
          rw [wsA_at, hj]
          simp [cellA_obj hci]
        have hn : narrow (ty k) (.ref (E.2.2 + v)) = .ref (E.2.2 + v) := by rcases hty with ⟨n, q⟩ | ⟨n, q⟩ <;> rw [q] <;> rfl
        have hft : fits (ty k) (.ref (E.2.2 + v)) = true := by rcases hty with ⟨n, q⟩ | ⟨n, q⟩ <;> rw [q] <;> rfl
        have kk : ∀ (H1 : Heap) (locs1 : List Loc), H1.size = H.size → va_P E.1 cls ((wsA E.2.2 E.2.1 X).set j (E.2.2 + j, .inr (c0, (fs.map (cvV E.2.2)).set k (.ref (E.2.2 + v))))) H1 → va_S (fun q => E.2.2 ≤ q) s.heap H1 locs1 → W p l e (rmA d mc ms) s m args below meth c H1 locs1 cc sc (MQ below (QA E X') args s mc ms (fun q => E.2.2 ≤ q)) (F0 m (pc + 3) ls (st'.map (vcV E.2.2))) := by
          intro H1 locs1 z1 hP1 hS1
          rw [wsA_set (c0, fs.set k (.inr (some v))) (by rw [cellA_obj hci, ← set_map (x := .ref (E.2.2 + v)) rfl])] at hP1
          exact hw H1 locs1 ls (by rw [z1, hz]; simp) hP1 hS1 hL
        rcases hf with hf | ⟨hf, hdecl⟩
        · exact var_put C.1 C.2.1 C.2.2.2.2.1 C.2.2.2.1 C.2.2.2.2.2.2.2.1 hP (wsA_D _ _ _) hS hK hk he hn hft hf (by simpa using hkl) hl hd kk
        · exact fin_put C.1 C.2.1 C.2.2.2.2.1 C.2.2.2.1 C.2.2.2.2.2.2.2.1 hP (wsA_D _ _ _) hS C.2.2.2.2.2.2.2.2.2.1 hK hk he hn hft hf hdecl (by simpa using hkl) hl hd kk
      · cases h
    · cases h
  · cases h
theorem kc_putI {ci N k idx : Nat} {C : String} {T : u_T} {ty : Nat → FieldType} (hK : CK ci C T N ty) (hci : ci < 100) (hk : k < N) (hty : ty k = .int) (hf : (T k).2.2.2 = false) (hl : Cond.fieldLink own idx (T k).1 (T k).2.1 (T k).2.2.1 ∈ tbT) (hd : decode bytes pc = .ok (.putfield idx, 3)) : OkC E l d mc ms own bytes nL (pc, .inl (cPutI pc ci k)) := by
  intro p e s m args below meth c C X' σ pc' σ' h hw H locs ls hz hP hS hL
  obtain ⟨ls0, st, X, cc, sc⟩ := σ
  simp only [cPutI] at h
  split at h
  · rename_i _ v j st'
    split at h
    · rename_i c0 fs hj
      split at h
      · rename_i hc
        obtain ⟨rfl, hkl⟩ := hc
        cases h
        have he : (wsA E.2.2 E.2.1 X)[j]? = some (E.2.2 + j, .inr (c0, fs.map (cvV E.2.2))) := by
          rw [wsA_at, hj]
          simp [cellA_obj hci]
        refine var_put (v := .int v) C.1 C.2.1 C.2.2.2.2.1 C.2.2.2.1 C.2.2.2.2.2.2.2.1 hP (wsA_D _ _ _) hS hK hk he (by rw [hty]; rfl) (by rw [hty]; rfl) hf (by simpa using hkl) hl hd (fun H1 locs1 z1 hP1 hS1 => ?_)
        rw [wsA_set (c0, fs.set k (.inl v)) (by rw [cellA_obj hci, ← set_map (x := .int v) rfl])] at hP1
        exact hw H1 locs1 ls (by rw [z1, hz]; simp) hP1 hS1 hL
      · cases h
    · cases h
  · cases h
theorem cellA_ref {B : Nat} {cT : Nat → ClassId} {tr : Nat} {fs : List CV} : cellA B cT (200 + tr, fs) = .inl (cT tr, fs.length, .inr (.inr (.inr (.inr fun k => (cvR (fs.getD k (.inr none))).map (B + ·))))) := by
  unfold cellA
  rw [if_neg (by show ¬ 200 + tr < 100; omega), if_neg (by show ¬ 200 + tr = 100; omega), if_neg (by show ¬ 200 + tr = 101; omega), show 200 + tr - 200 = tr by omega]
theorem kc_aast {tr t0 ci : Nat} {r : vw_C} (hci : ci < 100) (ht : (tysA E)[t0]? = some (E.2.1 tr, .object r.1)) (hc : cls[ci]? = some r) (hd : decode bytes pc = .ok (.aastore, 1)) : OkC E l d mc ms own bytes nL (pc, .inl (cAast pc tr ci)) := by
  intro p e s m args below meth c C X' σ pc' σ' h hw H locs ls hz hP hS hL
  obtain ⟨ls0, st, X, cc, sc⟩ := σ
  simp only [cAast] at h
  split at h
  · rename_i _ v x j st'
    split at h
    · rename_i c0 fs c2 fs2 hj hv
      split at h
      · rename_i hcc
        obtain ⟨rfl, rfl, hin⟩ := hcc
        cases h
        have he : (wsA E.2.2 E.2.1 X)[j]? = some (E.2.2 + j, .inl (E.2.1 tr, fs.length, .inr (.inr (.inr (.inr fun k => (cvR (fs.getD k (.inr none))).map (E.2.2 + ·)))))) := by
          rw [wsA_at, hj]
          simp only [Option.map_some, cellA_ref]
        have he2 : (wsA E.2.2 E.2.1 X)[v]? = some (E.2.2 + v, .inr (c2, fs2.map (cvV E.2.2))) := by
          rw [wsA_at, hv]
          simp only [Option.map_some, cellA_obj hci]
        have hlt : x.toNatClampNeg < fs.length := Nat.not_le.mp fun q => hin (Or.inr q)
        have h0 : ¬ x < 0 := fun q => hin (Or.inl q)
        obtain ⟨r', hr', cellV, g1, g2, g3, -⟩ := hP v _ he2
        have hcl := (C.2.2.2.2.2.2.2.1.1 c2 r hc).2
        obtain ⟨kA, comp, k1, k2, k3, -⟩ := (C.2.2.2.2.2.2.2.1.2 t0 _ ht).2
        have hcomp : comp = E.1.1 c2 := Option.some.inj (k3.symm.trans hcl.1)
        subst hcomp
        obtain ⟨kC, hkC, -⟩ := hcl.2
        have hcell := hP j _ he
        refine W.aast C.1 C.2.1 hcell (fun q h => by cases h) (fun h => by cases h) k1 k2 rfl hkC ⟨h0, by show _ < (arrV _ _ _).slots.size; rw [arrV_size]; exact hlt⟩ g1 (fun q h => by rw [g3] at h; cases h) (by rw [g2]; exact hkC) (by rw [g2]; exact va_assign hcl) rfl rfl hd fun H1 e z oq => ?_
        have hP1 : va_P E.1 cls ((wsA E.2.2 E.2.1 X).set j (E.2.2 + j, .inl (E.2.1 tr, fs.length, .inr (.inr (.inr (.inr fun k => (cvR ((fs.set x.toNatClampNeg (.inr (some v))).getD k (.inr none))).map (E.2.2 + ·))))))) H1 := by
          refine hP.set (wsA_D _ _ _) he ?_ oq
          show H1[E.2.2 + j]? = some (vp_cell _ _)
          rw [e]
          rw [vp_cell_q, vp_cell_q, arrV_store]
          congr 2
          funext q
          by_cases hq : q = x.toNatClampNeg
          · subst hq
            simp [updV, va_rf, List.getD_eq_getElem?_getD, hlt, cvR]
          · simp [updV, hq, List.getD_eq_getElem?_getD, List.getElem?_set, Ne.symm hq]
        rw [wsA_set (200 + tr, fs.set x.toNatClampNeg (.inr (some v))) (by rw [cellA_ref]; simp)] at hP1
        exact hw H1 _ ls (by rw [z, hz]; simp) hP1 (hS.put z oq (Nat.le_add_right _ _)) hL
      · cases h
    · cases h
  · cases h
theorem cellA_int {B : Nat} {cT : Nat → ClassId} {fs : List CV} : cellA B cT (100, fs) = .inl (cT 100, fs.length, .inl fun k => cvI (fs.getD k (.inl 0))) := by
  unfold cellA
  rw [if_neg (by show ¬ 100 < 100; decide), if_pos rfl]
theorem kc_iast (hd : decode bytes pc = .ok (.iastore, 1)) : OkC E l d mc ms own bytes nL (pc, .inl (cIast pc)) := by
  intro p e s m args below meth c C X' σ pc' σ' h hw H locs ls hz hP hS hL
  obtain ⟨ls0, st, X, cc, sc⟩ := σ
  simp only [cIast] at h
  split at h
  · rename_i _ v x j st'
    split at h
    · rename_i c0 fs hj
      split at h
      · rename_i hcc
        obtain ⟨rfl, hin⟩ := hcc
        cases h
        have he : (wsA E.2.2 E.2.1 X)[j]? = some (E.2.2 + j, .inl (E.2.1 100, fs.length, .inl fun k => cvI (fs.getD k (.inl 0)))) := by
          rw [wsA_at, hj]
          simp only [Option.map_some, cellA_int]
        have hlt : x.toNatClampNeg < fs.length := Nat.not_le.mp fun q => hin (Or.inr q)
        have hcell := hP j _ he
        refine W.iast C.1 C.2.1 hcell ((C.2.2.2.2.2.2.2.1.2 0 _ rfl).1 _ _) (fun q => by cases q) (by show ¬ (x < 0 ∨ (arrV _ _ _).slots.size ≤ _); rw [arrV_size]; exact hin) rfl rfl hd fun H1 e z oq => ?_
        have hP1 : va_P E.1 cls ((wsA E.2.2 E.2.1 X).set j (E.2.2 + j, .inl (E.2.1 100, fs.length, .inl fun k => cvI ((fs.set x.toNatClampNeg (.inl v)).getD k (.inl 0))))) H1 := by
          refine hP.set (wsA_D _ _ _) he ?_ oq
          show H1[E.2.2 + j]? = some (vp_cell _ _)
          rw [e]
          rw [vp_cell_i, vp_cell_i, arrV_store]
          congr 2
          funext q
          by_cases hq : q = x.toNatClampNeg
          · subst hq
            simp [updV, List.getD_eq_getElem?_getD, hlt, cvI]
          · simp [updV, hq, List.getD_eq_getElem?_getD, List.getElem?_set, Ne.symm hq]
        rw [wsA_set (100, fs.set x.toNatClampNeg (.inl v)) (by rw [cellA_int]; simp)] at hP1
        exact hw H1 _ ls (by rw [z, hz]; simp) hP1 (hS.put z oq (Nat.le_add_right _ _)) hL
      · cases h
    · cases h
  · cases h
theorem kc_obj {idx : Nat} (hdd : 1 ≤ d) (hl : Cond.methodLink own idx Lib.objectInit ∈ tbT) (h1 : Cond.instanceMethod Lib.objectInit ∈ tbT) (h2 : Cond.code Lib.objectInit ⟨#[0xb1]⟩ 1 none ∈ tbT) (hd : decode bytes pc = .ok (.invokespecial idx, 3)) : OkC E l d mc ms own bytes nL (pc, .inl (cObj pc)) := by
  intro p e s m args below meth c C X' σ pc' σ' h hw H locs ls hz hP hS hL
  obtain ⟨ls0, st, X, cc, sc⟩ := σ
  simp only [cObj] at h
  split at h
  · rename_i _ j st'
    split at h
    · rename_i hlen
      cases h
      refine W.objInit C.1 C.2.1 C.2.2.2.1 (C.2.2.2.2.1 _ hl) (C.2.2.2.2.1 _ h1) (C.2.2.2.2.1 _ h2) rfl (by rw [C.2.2.1]; exact hL.2.1) rfl hd hdd ?_ (hw H locs ls hz hP hS hL)
      rw [vc_sum]
      show 2 * 0 + st'.length + 12 ≤ 40 * d
      omega
    · cases h
  · cases h
theorem kc_ret (hd : decode bytes pc = .ok (.return_, 1)) : OkC E l d mc ms own bytes nL (pc, .inr ()) := by
  intro p e s m args below meth c C X' ls0 cc sc hcc hsc H locs ls hz hP hS hL
  refine W.widen hcc hsc ?_
  exact W.vret C.1 C.2.1 C.2.2.2.2.2.1 (fun t ht hW => ⟨rfl, by rw [ht]; exact hz, by rw [ht]; exact hP, hS.F ht⟩) hS.2.2 hd C.2.2.2.2.2.2.1
def DenA (E : EA) (l : Launch) (d mc ms : Nat) (y : MethodName) (bytes : ByteArray) (nL : Nat) (den : Nat → List CC → Option (List CC)) : Prop := ∀ j X X', den j X = some X' → ConA E l d mc ms y bytes nL [.inr (.inl (some j))] X X'
theorem PA_blind (E : EA) (as : List VC) (X : List CC) : FrameBlind (PA E as X) := by
  intro a U g mk h
  obtain ⟨h1, h2, h3, h4, h5, h6⟩ := h
  exact ⟨h1, h2, h3, va_K.moved (u := U) (U := U.calling g mk a) (Vm.Alike.refl U.vm) h4, AOs.moved (u := U) (U := U.calling g mk a) (Vm.Alike.refl U.vm) h5, fun w hw hn => va_tabs (u := U) (nest_on hn) rfl (h6 w hw hn)⟩
theorem kc_init {d' mc' ms' cnL idx : Nat} {y : MethodName} {cb : ByteArray} {den : Nat → List CC → Option (List CC)} (hD : DenA E l d' mc' ms' y cb cnL den) (hI : MI y cb cnL none 0) (hy : y.name = "<init>") (hin : Cond.instanceMethod y ∈ tbT) (hdd : d' + 1 ≤ d) (hl : Cond.methodLink own idx y ∈ tbT ∨ ∃ host, Cond.methodLinkNest own idx y host ∈ tbT) (hd : decode bytes pc = .ok (.invokespecial idx, 3)) : OkC E l d mc ms own bytes nL (pc, .inl (cInit pc den mc' ms' mc ms)) := by
  intro p e s m args below meth c C X' σ pc' σ' h hw H locs ls hz hP hS hL
  obtain ⟨ls0, st, X, cc, sc⟩ := σ
  simp only [cInit] at h
  split at h
  · rename_i _ j st'
    split at h
    · rename_i hcs
      rw [Option.map_eq_some_iff] at h
      obtain ⟨X1, hX, he⟩ := h
      cases he
      have hM := hD j X X1 hX
      have hroom : (rmA d' mc' ms').frames + 1 ≤ (rmA d mc ms).frames ∧ 8 + (cnL + 11) + (rmA d' mc' ms').locals ≤ (rmA d mc ms).locals := by
        refine ⟨hdd, ?_⟩
        have := hI.2.2.2.2.1
        show 8 + (cnL + 11) + 40 * d' ≤ 40 * d
        omega
      have hpre : ∀ U : State, U.heap = H → s.WarmedH U.vm → PA E [.inr (.inl (some j))] X (([.inr (.inl (some j))] : List VC).map (vcV E.2.2)).toArray U := by
        intro U hU hW
        exact ⟨rfl, by rw [hU]; exact hz, by rw [hU]; exact hP, va_K.moved hW.alike C.2.2.2.2.2.2.2.1, C.2.2.2.2.2.2.2.2.1.moved hW.alike, fun w hw hn => nest_warm hn hW (va_tabs (nest_on hn) rfl (C.2.2.2.2.1 w hw))⟩
      have hrun : va_Run p l e (rmA d mc ms) s m args below meth c H locs cc sc mc' ms' (F0 m pc ls (.ref (E.2.2 + j) :: st'.map (vcV E.2.2))) (st'.map (vcV E.2.2)) (QA E X1 (([.inr (.inl (some j))] : List VC).map (vcV E.2.2)).toArray) (fun q => E.2.2 ≤ q) := by
        rcases hl with hl | ⟨host, hl⟩
        · exact va_runI (As := []) (b := E.2.2 + j) ⟨C.1, C.2.1, C.2.2.1, C.2.2.2.1, C.2.2.2.2.1⟩ hM ⟨callB_of 0 C.2.2.2.2.1 (gw_code hI.1) rfl rfl rfl (C.2.2.2.2.1 _ hI.2.1) (C.2.2.2.2.1 _ hl) ⟨hI.2.2.1.1, hI.2.2.1.2, hI.2.2.2.1⟩ hroom, hy, C.2.2.2.2.1 _ hin⟩ ⟨PA_blind E _ X, hpre⟩ rfl rfl hL.2.1 rfl (lv_room (by rw [vc_sum]; exact hcs.1)) hd ⟨hcs.2.1, hcs.2.2⟩
        · exact va_runIN (As := []) (b := E.2.2 + j) ⟨C.1, C.2.1, C.2.2.1, C.2.2.2.1, C.2.2.2.2.1⟩ hM ⟨va_cnB 0 C.2.2.2.2.1 (gw_code hI.1) rfl rfl rfl (va_tabs rfl rfl (C.2.2.2.2.1 _ hl)) (C.2.2.2.2.1 _ hI.2.1) ⟨hI.2.2.1.1, hI.2.2.1.2, hI.2.2.2.1⟩ hroom, hy, C.2.2.2.2.1 _ hin⟩ ⟨PA_blind E _ X, hpre⟩ rfl rfl hL.2.1 rfl (lv_room (by rw [vc_sum]; exact hcs.1)) hd ⟨hcs.2.1, hcs.2.2⟩
      intro T hT XX
      obtain ⟨v', st₀, t, T', L, h0, XX', hL', e1, e2, ⟨ho, hz', hP', hF⟩, go⟩ := hrun T hT XX
      cases ho
      obtain ⟨t2, a1, b1⟩ := hw t.heap (locs ++ L) ls hz' hP' (hS.after h0 hF hL') hL T' e1 XX'
      exact ⟨t2, go t2 a1, b1⟩
    · cases h
  · cases h
def AllC (E : EA) (l : Launch) (d mc ms : Nat) (own : String) (bytes : ByteArray) (nL : Nat) : List EnC → Prop
  | [] => True
  | x :: r => OkC E l d mc ms own bytes nL x ∧ AllC E l d mc ms own bytes nL r
theorem akC {x : EnC} {r : List EnC} (h : OkC E l d mc ms own bytes nL x) (h2 : AllC E l d mc ms own bytes nL r) : AllC E l d mc ms own bytes nL (x :: r) := ⟨h, h2⟩
theorem seekC_spec {t : Nat} {x : EnC} : ∀ {code : List EnC}, AllC E l d mc ms own bytes nL code → seekC code t = some x → OkC E l d mc ms own bytes nL x ∧ x.1 = t
  | [], _, h => by simp [seekC] at h
  | e :: r, hA, h => by
    simp only [seekC] at h
    split at h
    · rename_i hb
      cases h
      exact ⟨hA.1, Nat.eq_of_beq_eq_true hb⟩
    · exact seekC_spec hA.2 h
theorem runC_ok {code : List EnC} (hA : AllC E l d mc ms own bytes nL code) {p : Program} {e : Env} {s : State} {m : MethodId} {args : Array Value} {below : List Frame} {meth : Method} {c : Code} (C : CxA E p s m args meth c own bytes nL) {X' : List CC} : ∀ (n pc : Nat) (σ : SC), runC code mc ms n pc σ = some X' → Wc E p l e d mc ms s m args below meth c nL pc σ X' := by
  intro n
  induction n with
  | zero => intro pc σ h; simp [runC] at h
  | succ n ih =>
    intro pc σ h
    simp only [runC] at h
    split at h
    · cases h
    · rename_i a f hs
      obtain ⟨h1, h2⟩ := seekC_spec hA hs
      subst h2
      split at h
      · cases h
      · rename_i pc' σ' hf
        exact h1 p e s m args below meth c C X' σ pc' σ' hf (ih pc' σ' h)
    · rename_i a u hs
      obtain ⟨h1, h2⟩ := seekC_spec hA hs
      subst h2
      split at h
      · rename_i hst
        split at h
        · rename_i hcs
          cases h
          obtain ⟨ls0, st, X, cc, sc⟩ := σ
          have hst' : st = [] := hst
          subst hst'
          exact h1 p e s m args below meth c C X ls0 cc sc hcs.1 hcs.2
        · cases h
      · cases h
theorem conA_of {y : MethodName} {n j : Nat} {X X' : List CC} {code : List EnC} (hI : MI y bytes nL none 0) (hy : y.name = "<init>") (hnL : nL = n + 1) (hA : AllC E l d mc ms y.cls bytes nL code) {f : Nat} (h : runC code mc ms f 0 (.inr (.inl (some j)) :: List.replicate n (.inr (.inr ())), [], X, 0, 0) = some X') : ConA E l d mc ms y bytes nL [.inr (.inl (some j))] X X' := by
  subst hnL
  refine Met.ofW (cc := bytes) (maxL := n + 1) (ret := none) hI.2.2.2.2.2 rfl ?_
  intro p e s m args below meth c s₁ B hml hv
  obtain ⟨rfl, hz, hP, hK, hAO, hN⟩ := hv
  have hts0 := atoms_spec (ws := Cond.code y bytes (n + 1) none :: gwT) B.pre
  have hts : ∀ w ∈ tbT, w.before (([.inr (.inl (some j))] : List VC).map (vcV E.2.2)).toArray s = true := by
    intro w hw
    have h1 := (List.mem_filter.mp hw).2
    simp only [Bool.or_eq_true] at h1
    rcases h1 with h1 | h1
    · exact hts0 w (List.mem_cons_of_mem _ (List.mem_filter.mpr ⟨hw, h1⟩))
    · exact va_tabs (nest_on h1) rfl (hN w hw h1)
  have hown : s.vm.findClass y.cls = some m.cls := findClass_of_methodNamed B.named
  have hname : meth.name = "<init>" := ((name_of_methodNamed B.named B.method).1).trans hy
  have hl := lv_entry (([.inr (.inl (some j))] : List VC).map (vcV E.2.2)) (n := n + 1) (by show 1 ≤ n + 1; omega)
  rw [lg_entry_eq]
  refine runC_ok hA ⟨B.exec, B.bytes, hml, hown, hts, B.returns, B.notSynchronized, hK, hAO, hname, by rw [hz]; exact Nat.le_add_right _ _⟩ f 0 _ h s.heap [] _ hz hP va_S.rf ⟨by simp, hl.1, hl.2.1, fun i v hi hne => ?_⟩
  cases i with
  | zero =>
    cases hi
    exact hl.2.2 (0, .ref (E.2.2 + j)) List.mem_cons_self
  | succ i =>
    simp only [List.getElem?_cons_succ, List.getElem?_replicate] at hi
    split at hi
    · cases hi; exact absurd rfl hne
    · cases hi
end OkCs
