/-! ===== calls; a stretch of code; a method ===== -/
def gwT : List Cond := tbT.filter goodWord
theorem nest_warm {s U : State} {w : Cond} (hw : nestWord w = true) (hW : s.WarmedH U.vm) (h : va_Nw w s) : va_Nw w U := by
  cases w <;> first | exact va_Nw.warmF hW h | exact va_Nw.warmM hW h | cases hw
theorem nest_on {w : Cond} (hw : nestWord w = true) : w.onTables = true := by
  cases w <;> first | rfl | cases hw
def Pm (E : EV) (as : List AV) (M : Mem) : Array Value → State → Prop := fun va U => va = (as.map (vO E.2.1)).toArray ∧ va_P E.1 cls (wsE E M) U.heap ∧ va_K E.1 cls (tysE E) U ∧ ZK E U U.heap ∧ EOK E ∧ okM M ∧ (∀ a ∈ as, vA E.2.2.2 a) ∧ ∀ w ∈ tbT, nestWord w = true → va_Nw w U
def Con (E : EV) (l : Launch) (d : Nat) (y : MethodName) (bytes : ByteArray) (maxL : Nat) (ret : Option FieldType) (as : List AV) (M : Mem) (v : AV) (M' : Mem) : Prop :=
  Met l y (Cond.code y bytes maxL ret :: gwT) (rmD d) (Pm E as M) (Qm E v M') 0 0 (Ast E)
def MI (y : MethodName) (bytes : ByteArray) (maxL : Nat) (ret : Option FieldType) (n : Nat) : Prop := Cond.code y bytes maxL ret ∈ tbT ∧ Cond.initialized y.cls ∈ tbT ∧ (y.cls ≠ "java/lang/invoke/MethodHandle" ∧ y.cls ≠ "java/lang/invoke/VarHandle") ∧ (parseMethodDescriptor y.desc).map (fun d => d.parameters.length) = some n ∧ maxL ≤ 21 ∧ plainName y.cls = true
def isU : AV → Bool
  | .inr (.inr (.inr _)) => true
  | _ => false
def DenOK (E : EV) (l : Launch) (d : Nat) (y : MethodName) (bytes : ByteArray) (maxL : Nat) (ret : Option FieldType) {α : Type} (hr : Bool) (den : Den α) : Prop :=
  ∀ (as : List AV) (M : Mem) (k : AV → Mem → Option α) (res : α), den as M k = some res → ∃ v M', k v M' = some res ∧ isU v = !hr ∧ Con E l d y bytes maxL ret as M v M'
/-- what a method is called on -/
def RecOK (r : Nat) {α : Type} (den : Den α) : Prop := ∀ (as : List AV) (M : Mem) (k : AV → Mem → Option α) (res : α), den as M k = some res → ∃ w i as', as = aR (r, w, i) :: as'
theorem ZK.moved {E : EV} {u U : State} {H : Heap} (hvm : u.vm.Alike U.vm) (h : ZK E u H) : ZK E U H := ⟨h.1.moved hvm, h.2.1.moved hvm, h.2.2.1.moved hvm, h.2.2.2.moved hvm⟩
theorem ZK.kept {E : EV} {U : State} {H H1 : Heap} (h : ZK E U H) (hq : ∀ a : Nat, a < H.size → ¬ Ast E a → H1[a]? = H[a]?) : ZK E U H1 := ⟨h.1.kept hq, h.2.1.kept hq, h.2.2.1.kept hq, h.2.2.2.kept hq⟩
theorem Pm_blind (E : EV) (as : List AV) (M : Mem) : FrameBlind (Pm E as M) := by
  intro a U g mk h
  obtain ⟨h1, h2, h3, h4, h5, h6, h7, h8⟩ := h
  exact ⟨h1, h2, va_K.moved (u := U) (U := U.calling g mk a) (Vm.Alike.refl U.vm) h3, ZK.moved (u := U) (U := U.calling g mk a) (Vm.Alike.refl U.vm) h4, h5, h6, h7, fun w hw hn => va_tabs (u := U) (nest_on hn) rfl (h8 w hw hn)⟩
theorem tk_spec : ∀ {n : Nat} {st acc as st' : List AV}, tk n st acc = some (as, st') → ∃ xs, st = xs ++ st' ∧ as = xs.reverse ++ acc ∧ xs.length = n
  | 0, st, acc, as, st', h => by
    simp only [tk, Option.some.injEq, Prod.mk.injEq] at h
    exact ⟨[], by simp [h.2], by simp [h.1], rfl⟩
  | n + 1, [], acc, as, st', h => by simp [tk] at h
  | n + 1, a :: st, acc, as, st', h => by
    simp only [tk] at h
    obtain ⟨xs, h1, h2, h3⟩ := tk_spec h
    exact ⟨a :: xs, by simp [h1], by simp [h2], by simp [h3]⟩
theorem gw_good : GoodIn tbT gwT := fun w hw => by
  obtain ⟨h1, h2⟩ := List.mem_filter.mp hw
  exact ⟨h1, good_of_word h2⟩
theorem gw_code {y : MethodName} {bytes : ByteArray} {maxL : Nat} {ret : Option FieldType} (h : Cond.code y bytes maxL ret ∈ tbT) : GoodIn tbT (Cond.code y bytes maxL ret :: gwT) := fun w hw => by
  rcases List.mem_cons.mp hw with rfl | hw
  · exact ⟨h, Or.inl rfl⟩
  · exact gw_good w hw
theorem va_S.after {A : Nat → Prop} {H0 H : Heap} {locs L : List Loc} {st t : State} (h : va_S A H0 H locs) (h0 : st.heap = H) (hF : va_F A st t) (hL : ∀ q ∈ L, A q.base) : va_S A H0 t.heap (locs ++ L) := by
  refine ⟨Nat.le_trans h.1 (by rw [← h0]; exact hF.1), fun q h1 h2 => ?_, fun q hq => ?_⟩
  · rw [hF.2 q (by rw [h0]; exact Nat.lt_of_lt_of_le h1 h.1) h2, h0]
    exact h.2.1 q h1 h2
  · rcases List.mem_append.mp hq with q1 | q1
    · exact h.2.2 q q1
    · exact hL q q1
section Inv
variable {E : EV} {l : Launch} {d d' : Nat} {own : String} {bytes cb : ByteArray} {nL maxL : Nat} {ret cr : Option FieldType} {α : Type} {out : α → AV × Mem} {b : Bool} {pc idx n : Nat} {y : MethodName}
/-- behind a call -/
theorem inv_after {p : Program} {e : Env} {s : State} {m : MethodId} {args : Array Value} {below : List Frame} {meth : Method} {c : Code} {H : Heap} {locs : List Loc} {ls : Array Slot} {als st' : List AV} {g0 : List Value} {av : Array Value} {nx : Nx α} {res : α} {hr : Bool} {v : AV} {M' : Mem}
    (hrun : va_Run p l e (rmD d) s m args below meth c H locs 0 0 0 0 (F0 m pc ls g0) (st'.map (vO E.2.1)) (Qm E v M' av) (Ast E)) (hS : va_S (Ast E) s.heap H locs) (hu : isU v = !hr)
    (hnx : (match hr with | true => nx als (v :: st') M' | false => nx als st' M') = some res) (hn : ∀ als st M, nx als st M = some res → Wm E p l e d s m args below meth c nL (pc + 3) als st M (out res).1 (out res).2)
    (hVa : ∀ a ∈ als, vA E.2.2.2 a) (hVs : ∀ a ∈ st', vA E.2.2.2 a) (hL : LSo E.2.1 nL als ls) : W p l e (rmD d) s m args below meth c H locs 0 0 (MQ below (Qm E (out res).1 (out res).2) args s 0 0 (Ast E)) (F0 m pc ls g0) := by
  intro T hT X
  obtain ⟨v', st₀, t, T', L, h0, X', hL', e1, e2, ⟨ho, hP', hM', hv', hF⟩, go⟩ := hrun T hT X
  have hv0 : v' = ov E.2.1 v := by cases ho; rfl
  subst hv0
  have hS' := hS.after h0 hF hL'
  cases hr with
  | true =>
    have hst : (ov E.2.1 v).toList ++ st'.map (vO E.2.1) = (v :: st').map (vO E.2.1) := by
      rcases v with x | x | x | x <;> first | rfl | cases hu
    obtain ⟨t2, a1, b1⟩ := hn _ _ _ hnx t.heap (locs ++ L) ls hP' hS' hM' hVa (List.forall_mem_cons.mpr ⟨hv', hVs⟩) hL T' e1 X'
    refine ⟨t2, go t2 ?_, b1⟩
    rw [hst]
    exact a1
  | false =>
    have hst : (ov E.2.1 v).toList ++ st'.map (vO E.2.1) = st'.map (vO E.2.1) := by
      rcases v with x | x | x | x <;> first | rfl | cases hu
    obtain ⟨t2, a1, b1⟩ := hn _ _ _ hnx t.heap (locs ++ L) ls hP' hS' hM' hVa hVs hL T' e1 X'
    refine ⟨t2, go t2 ?_, b1⟩
    rw [hst]
    exact a1
theorem room_ok (hm : maxL ≤ 21) (hdd : d' + 1 ≤ d) : (rmD d').frames + 1 ≤ (rmD d).frames ∧ 8 + (maxL + 11) + (rmD d').locals ≤ (rmD d).locals := by
  refine ⟨hdd, ?_⟩
  show 8 + (maxL + 11) + 40 * d' ≤ 40 * d
  omega
theorem pm_of {p : Program} {s : State} {m : MethodId} {args : Array Value} {meth : Method} {c : Code} {H : Heap} {locs : List Loc} {as : List AV} {M : Mem} (C : Cx E p s m args meth c own bytes nL ret) (hP : va_P E.1 cls (wsE E M) H) (hS : va_S (Ast E) s.heap H locs) (hM : okM M) (hV : ∀ a ∈ as, vA E.2.2.2 a) : ∀ U : State, U.heap = H → s.WarmedH U.vm → Pm E as M (as.map (vO E.2.1)).toArray U := by
  intro U hU hW
  refine ⟨rfl, by rw [hU]; exact hP, va_K.moved hW.alike C.2.2.2.2.2.2.2.1, ?_, C.2.2.2.2.2.2.2.2.2, hM, hV, fun w hw hn => nest_warm hn hW (va_tabs (nest_on hn) rfl (C.2.2.2.2.1 w hw))⟩
  rw [hU]
  exact (C.2.2.2.2.2.2.2.2.1.moved hW.alike).kept hS.2.1
theorem split_st {ad : Loc3 → Nat} {st st' as : List AV} {n : Nat} (h : tk n st [] = some (as, st')) : st.map (vO ad) = (as.map (vO ad)).reverse ++ st'.map (vO ad) ∧ (∀ a ∈ as, a ∈ st) ∧ (∀ a ∈ st', a ∈ st) ∧ as.length = n := by
  obtain ⟨xs, h1, h2, h3⟩ := tk_spec h
  subst h1
  simp only [List.append_nil] at h2
  subst h2
  refine ⟨by simp, fun a ha => by simp at ha; simp [ha], fun a ha => by simp [ha], by simp [h3]⟩
theorem ok_invS {hr : Bool} {den : Den α} (hD : DenOK E l d' y cb maxL cr hr den) (hI : MI y cb maxL cr n) (hst : Cond.static y ∈ tbT) (hdd : d' + 1 ≤ d) (hl : Cond.methodLink own idx y ∈ tbT) (hd : decode bytes pc = .ok (.invokestatic idx, 3)) : SemOK E l d own bytes nL ret out (b, pc, 3, sInv n hr den) := by
  intro p e s m args below meth c C nx jp rt als st M res h hn hj hr' H locs ls hP hS hM hVa hVs hL
  simp only [sInv] at h
  split at h
  · rename_i as st' htk
    split at h
    · rename_i hcat
      obtain ⟨v, M', hk, hu, hM'⟩ := hD _ _ _ _ h
      obtain ⟨s1, s2, s3, s4⟩ := split_st (ad := E.2.1) htk
      refine inv_after (v := v) (M' := M') (hr := hr) (va_runS ⟨C.1, C.2.1, C.2.2.1, C.2.2.2.1, C.2.2.2.2.1⟩ hM' ⟨callB_of n C.2.2.2.2.1 (gw_code hI.1) rfl rfl rfl (C.2.2.2.2.1 _ hI.2.1) (C.2.2.2.2.1 _ hl) ⟨hI.2.2.1.1, hI.2.2.1.2, hI.2.2.2.1⟩ (room_ok hI.2.2.2.2.1 hdd), C.2.2.2.2.1 _ hst⟩ ⟨Pm_blind E as M, pm_of C hP hS hM (fun a ha => hVs a (s2 a ha))⟩ rfl (by simp [s4]) hL.2.1 s1 (lv_room (by rw [catS_sum]; exact Nat.le_of_ble_eq_true hcat)) hd ⟨Nat.zero_le _, Nat.zero_le _⟩) hS hu ?_ hn hVa (fun a ha => hVs a (s3 a ha)) hL
      cases hr <;> exact hk
    · cases h
  · cases h
theorem ok_invSN {hr : Bool} {den : Den α} {host : String} (hD : DenOK E l d' y cb maxL cr hr den) (hI : MI y cb maxL cr n) (hst : Cond.static y ∈ tbT) (hdd : d' + 1 ≤ d) (hl : Cond.methodLinkNest own idx y host ∈ tbT) (hd : decode bytes pc = .ok (.invokestatic idx, 3)) : SemOK E l d own bytes nL ret out (b, pc, 3, sInv n hr den) := by
  intro p e s m args below meth c C nx jp rt als st M res h hn hj hr' H locs ls hP hS hM hVa hVs hL
  simp only [sInv] at h
  split at h
  · rename_i as st' htk
    split at h
    · rename_i hcat
      obtain ⟨v, M', hk, hu, hM'⟩ := hD _ _ _ _ h
      obtain ⟨s1, s2, s3, s4⟩ := split_st (ad := E.2.1) htk
      refine inv_after (v := v) (M' := M') (hr := hr) (va_runSN ⟨C.1, C.2.1, C.2.2.1, C.2.2.2.1, C.2.2.2.2.1⟩ hM' ⟨va_cnB n C.2.2.2.2.1 (gw_code hI.1) rfl rfl rfl (va_tabs rfl rfl (C.2.2.2.2.1 _ hl)) (C.2.2.2.2.1 _ hI.2.1) ⟨hI.2.2.1.1, hI.2.2.1.2, hI.2.2.2.1⟩ (room_ok hI.2.2.2.2.1 hdd), C.2.2.2.2.1 _ hst, trivial⟩ ⟨Pm_blind E as M, pm_of C hP hS hM (fun a ha => hVs a (s2 a ha))⟩ rfl (by simp [s4]) hL.2.1 s1 (lv_room (by rw [catS_sum]; exact Nat.le_of_ble_eq_true hcat)) hd ⟨Nat.zero_le _, Nat.zero_le _⟩) hS hu ?_ hn hVa (fun a ha => hVs a (s3 a ha)) hL
      cases hr <;> exact hk
    · cases h
  · cases h
theorem ok_invV {hr : Bool} {den : Den α} {r ci N : Nat} {T : u_T} {ty : Nat → FieldType} (hD : DenOK E l d' y cb maxL cr hr den) (hR : RecOK r den) (hK : CK ci y.cls T N ty) (hkd : kd r = (0, ci, N)) (hI : MI y cb maxL cr n) (hin : Cond.instanceMethod y ∈ tbT) (hse : Cond.selects y.cls y y ∈ tbT) (hdd : d' + 1 ≤ d) (hl : Cond.methodLink own idx y ∈ tbT) (hd : decode bytes pc = .ok (.invokevirtual idx, 3)) : SemOK E l d own bytes nL ret out (b, pc, 3, sInv (n + 1) hr den) := by
  intro p e s m args below meth c C nx jp rt als st M res h hn hj hr' H locs ls hP hS hM hVa hVs hL
  simp only [sInv] at h
  split at h
  · rename_i as st' htk
    split at h
    · rename_i hcat
      obtain ⟨v, M', hk, hu, hM'⟩ := hD _ _ _ _ h
      obtain ⟨w, i, as', rfl⟩ := hR _ _ _ _ h
      obtain ⟨s1, s2, s3, s4⟩ := split_st (ad := E.2.1) htk
      have hm := in_Ls (hVs _ (s2 _ List.mem_cons_self)) (kd_no hkd)
      obtain ⟨q0, hq0, he⟩ := wsE_at (M := M) hm
      simp only [cellE, hkd, cellK] at he
      have hrc := va_recv C.2.2.2.2.2.2.2.1 hP hK.1 he
      refine inv_after (v := v) (M' := M') (hr := hr) (va_runV (As := as'.map (vO E.2.1)) (b := E.2.1 (r, w, i)) ⟨C.1, C.2.1, C.2.2.1, C.2.2.2.1, C.2.2.2.2.1⟩ hM' ⟨callB_of n C.2.2.2.2.1 (gw_code hI.1) rfl rfl rfl (C.2.2.2.2.1 _ hI.2.1) (C.2.2.2.2.1 _ hl) ⟨hI.2.2.1.1, hI.2.2.1.2, hI.2.2.2.1⟩ (room_ok hI.2.2.2.2.1 hdd), C.2.2.2.2.1 _ hin, C.2.2.2.2.1 _ hse⟩ ⟨Pm_blind E _ M, hrc, pm_of C hP hS hM (fun a ha => hVs a (s2 a ha))⟩ rfl (by simpa using s4) hL.2.1 (by rw [s1]; simp [vO]) (lv_room (by rw [catS_sum]; exact Nat.le_of_ble_eq_true hcat)) hd ⟨Nat.zero_le _, Nat.zero_le _⟩) hS hu ?_ hn hVa (fun a ha => hVs a (s3 a ha)) hL
      cases hr <;> exact hk
    · cases h
  · cases h
end Inv
