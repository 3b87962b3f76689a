/-! ===== java/lang/Integer.bitCount(I)I ===== -/
abbrev yJ_bitCount : MethodName := ⟨"java/lang/Integer", "bitCount", "(I)I"⟩
theorem iJ_bitCount : MI yJ_bitCount prog_14_method_49_code 1 (some .int) 1 := ⟨tw1019, tw111, ⟨by decide, by decide⟩, by decide +kernel, by decide, by decide⟩
def cJ_bitCount : List (Ent (Int32 × Mem)) := [(false, 0, 1, sLdI 0),
  (false, 1, 1, sLdI 0),
  (false, 2, 1, sC 1),
  (false, 3, 1, sBin (fun x y => (x.toUInt32 >>> (y.toUInt32 &&& Int32.toUInt32 31)).toInt32)),
  (false, 4, 3, sC 1431655765),
  (false, 7, 1, sBin (fun x y => x &&& y)),
  (false, 8, 1, sBin (fun x y => x - y)),
  (false, 9, 1, sStI 0),
  (false, 10, 1, sLdI 0),
  (false, 11, 3, sC 858993459),
  (false, 14, 1, sBin (fun x y => x &&& y)),
  (false, 15, 1, sLdI 0),
  (false, 16, 1, sC 2),
  (false, 17, 1, sBin (fun x y => (x.toUInt32 >>> (y.toUInt32 &&& Int32.toUInt32 31)).toInt32)),
  (false, 18, 3, sC 858993459),
  (false, 21, 1, sBin (fun x y => x &&& y)),
  (false, 22, 1, sBin (fun x y => x + y)),
  (false, 23, 1, sStI 0),
  (false, 24, 1, sLdI 0),
  (false, 25, 1, sLdI 0),
  (false, 26, 1, sC 4),
  (false, 27, 1, sBin (fun x y => (x.toUInt32 >>> (y.toUInt32 &&& Int32.toUInt32 31)).toInt32)),
  (false, 28, 1, sBin (fun x y => x + y)),
  (false, 29, 3, sC 252645135),
  (false, 32, 1, sBin (fun x y => x &&& y)),
  (false, 33, 1, sStI 0),
  (false, 34, 1, sLdI 0),
  (false, 35, 1, sLdI 0),
  (false, 36, 2, sC 8),
  (false, 38, 1, sBin (fun x y => (x.toUInt32 >>> (y.toUInt32 &&& Int32.toUInt32 31)).toInt32)),
  (false, 39, 1, sBin (fun x y => x + y)),
  (false, 40, 1, sStI 0),
  (false, 41, 1, sLdI 0),
  (false, 42, 1, sLdI 0),
  (false, 43, 2, sC 16),
  (false, 45, 1, sBin (fun x y => (x.toUInt32 >>> (y.toUInt32 &&& Int32.toUInt32 31)).toInt32)),
  (false, 46, 1, sBin (fun x y => x + y)),
  (false, 47, 1, sStI 0),
  (false, 48, 1, sLdI 0),
  (false, 49, 2, sC 63),
  (false, 51, 1, sBin (fun x y => x &&& y)),
  (false, 52, 1, sRetI)]
theorem oJ_bitCount {E : EV} (hsd : E.2.2.2 = 0) (l : Launch) : AllOK E l 1 "java/lang/Integer" prog_14_method_49_code 1 (some .int) outI (cJ_bitCount) := by
  refine ak (ok_iload_n (k := 0) rfl (by decide +kernel)) ?_
  refine ak (ok_iload_n (k := 0) rfl (by decide +kernel)) ?_
  refine ak (ok_iconst (n := 1) (by decide) (by decide +kernel)) ?_
  refine ak (ok_iushr (by decide +kernel)) ?_
  refine ak (ok_ldcw tw1020 (by decide +kernel)) ?_
  refine ak (ok_iand (by decide +kernel)) ?_
  refine ak (ok_isub (by decide +kernel)) ?_
  refine ak (ok_istore_n (k := 0) rfl (by decide) (by decide +kernel)) ?_
  refine ak (ok_iload_n (k := 0) rfl (by decide +kernel)) ?_
  refine ak (ok_ldcw tw1021 (by decide +kernel)) ?_
  refine ak (ok_iand (by decide +kernel)) ?_
  refine ak (ok_iload_n (k := 0) rfl (by decide +kernel)) ?_
  refine ak (ok_iconst (n := 2) (by decide) (by decide +kernel)) ?_
  refine ak (ok_iushr (by decide +kernel)) ?_
  refine ak (ok_ldcw tw1021 (by decide +kernel)) ?_
  refine ak (ok_iand (by decide +kernel)) ?_
  refine ak (ok_iadd (by decide +kernel)) ?_
  refine ak (ok_istore_n (k := 0) rfl (by decide) (by decide +kernel)) ?_
  refine ak (ok_iload_n (k := 0) rfl (by decide +kernel)) ?_
  refine ak (ok_iload_n (k := 0) rfl (by decide +kernel)) ?_
  refine ak (ok_iconst (n := 4) (by decide) (by decide +kernel)) ?_
  refine ak (ok_iushr (by decide +kernel)) ?_
  refine ak (ok_iadd (by decide +kernel)) ?_
  refine ak (ok_ldcw tw1022 (by decide +kernel)) ?_
  refine ak (ok_iand (by decide +kernel)) ?_
  refine ak (ok_istore_n (k := 0) rfl (by decide) (by decide +kernel)) ?_
  refine ak (ok_iload_n (k := 0) rfl (by decide +kernel)) ?_
  refine ak (ok_iload_n (k := 0) rfl (by decide +kernel)) ?_
  refine ak (ok_bipush (n := 8) (by decide) (by decide +kernel)) ?_
  refine ak (ok_iushr (by decide +kernel)) ?_
  refine ak (ok_iadd (by decide +kernel)) ?_
  refine ak (ok_istore_n (k := 0) rfl (by decide) (by decide +kernel)) ?_
  refine ak (ok_iload_n (k := 0) rfl (by decide +kernel)) ?_
  refine ak (ok_iload_n (k := 0) rfl (by decide +kernel)) ?_
  refine ak (ok_bipush (n := 16) (by decide) (by decide +kernel)) ?_
  refine ak (ok_iushr (by decide +kernel)) ?_
  refine ak (ok_iadd (by decide +kernel)) ?_
  refine ak (ok_istore_n (k := 0) rfl (by decide) (by decide +kernel)) ?_
  refine ak (ok_iload_n (k := 0) rfl (by decide +kernel)) ?_
  refine ak (ok_bipush (n := 63) (by decide) (by decide +kernel)) ?_
  refine ak (ok_iand (by decide +kernel)) ?_
  refine ak (ok_ireturn rfl (by decide +kernel)) ?_
  exact trivial
set_option maxRecDepth 1000000 in
theorem eJ_bitCount (x0 : Int32) (M : Mem) : run (cJ_bitCount) (fun _ _ _ _ => none) rtI 400 (seek (cJ_bitCount) 0) [aI x0] [] M = mJ_bitCount x0 M := id rfl
theorem lJ_bitCount {E : EV} {l : Launch} {p : Program} {e : Env} {s : State} {m : MethodId} {args : Array Value} {below : List Frame} {meth : Method} {c : Code} (A : AllOK E l 1 "java/lang/Integer" prog_14_method_49_code 1 (some .int) outI (cJ_bitCount)) (C : Cx E p s m args meth c "java/lang/Integer" prog_14_method_49_code 1 (some .int)) : ∀ (x0 : Int32) (M : Mem) (res : (Int32 × Mem)), mJ_bitCount x0 M = some res → Wm E p l e 1 s m args below meth c 1 0 [aI x0] [] M (outI res).1 (outI res).2 := by
  intro x0 M res h
  refine run_at C A rfl hrtI (n := 400) ((eJ_bitCount x0 M).trans h) ?_
  intro t als st M hk; cases hk
def dJ_bitCount {β : Type} : Den β := fun as M k => match as with
  | [.inl x0] => (mJ_bitCount x0 M).bind fun q => k (aI q.1) q.2
  | _ => none
theorem wJ_bitCount {E : EV} (hsd : E.2.2.2 = 0) (l : Launch) (x0 : Int32) (M : Mem) (q : (Int32 × Mem)) (hq : mJ_bitCount x0 M = some q) : Con E l 1 yJ_bitCount prog_14_method_49_code 1 (some .int) [aI x0] M (outI q).1 (outI q).2 := by
  refine con_of iJ_bitCount (Nat.le_of_ble_eq_true rfl) ?_
  intro p e s m args below meth c C
  exact lJ_bitCount (oJ_bitCount hsd l) C x0 M _ hq
theorem kJ_bitCount {E : EV} (hsd : E.2.2.2 = 0) (l : Launch) {β : Type} : DenOK E l 1 yJ_bitCount prog_14_method_49_code 1 (some .int) true (dJ_bitCount (β := β)) := by
  intro as M k res h
  unfold dJ_bitCount at h
  split at h
  · obtain ⟨q, hq, hk⟩ := Option.bind_eq_some_iff.mp h
    exact ⟨aI q.1, q.2, hk, rfl, wJ_bitCount hsd l _ M q hq⟩
  · cases h
/-! ===== FreeLances$Plans.winterNext(LFreeLances$World;II)I ===== -/
abbrev yP_winterNext : MethodName := ⟨"FreeLances$Plans", "winterNext", "(LFreeLances$World;II)I"⟩
theorem iP_winterNext : MI yP_winterNext prog_5_method_8_code 5 (some .int) 3 := ⟨tw1031, tw107, ⟨by decide, by decide⟩, by decide +kernel, by decide, by decide⟩
def cP_winterNext : List (Ent (Int32 × Mem)) := [(false, 0, 1, sLdI 2),
  (false, 1, 3, sInv 1 true dJ_bitCount),
  (false, 4, 2, sStI 4),
  (false, 6, 1, sLdA 1),
  (false, 7, 3, sGet 1 (fun w i M => aR (5, w, 0))),
  (false, 10, 2, sLdI 4),
  (false, 12, 1, sAald 5 5 6),
  (false, 13, 3, sGet 6 (fun w i M => aR (8, w, i))),
  (false, 16, 1, sLdI 3),
  (false, 17, 1, sIald 8 8),
  (false, 18, 1, sLdA 0),
  (false, 19, 3, sGet 23 (fun w i M => aR (24, 0, 0))),
  (false, 22, 1, sLdI 2),
  (false, 23, 1, sC 1),
  (false, 24, 1, sLdI 3),
  (false, 25, 1, sBin (fun x y => x <<< (y &&& 31))),
  (false, 26, 1, sBin (fun x y => x ||| y)),
  (false, 27, 1, sIald 24 256),
  (false, 28, 1, sBin (fun x y => x + y)),
  (false, 29, 1, sRetI)]
theorem oP_winterNext {E : EV} (hsd : E.2.2.2 = 0) (l : Launch) : AllOK E l 2 "FreeLances$Plans" prog_5_method_8_code 5 (some .int) outI (cP_winterNext) := by
  refine ak (ok_iload_n (k := 2) rfl (by decide +kernel)) ?_
  refine ak (ok_invS (kJ_bitCount hsd l) iJ_bitCount tw1018 (by decide) tw1017 (by decide +kernel)) ?_
  refine ak (ok_istore (by decide) (by decide +kernel)) ?_
  refine ak (ok_aload_n (k := 1) rfl (by decide +kernel)) ?_
  refine ak (ok_get (k := 5) ck9 kd1 (by decide) (fun _ _ _ => rfl) (vf_1_5 hsd) tw397 (by decide +kernel)) ?_
  refine ak (ok_iload (by decide +kernel)) ?_
  refine ak (ok_aald (t0 := 3) (C := RX1) kd5 (by decide) rfl (vr_5 hsd) (by decide +kernel)) ?_
  refine ak (ok_get (k := 13) ck1 kd6 (by decide) (fun _ _ _ => rfl) (vf_6_13 hsd) tw234 (by decide +kernel)) ?_
  refine ak (ok_iload_n (k := 3) rfl (by decide +kernel)) ?_
  refine ak (ok_iald kd8 (by decide) (by decide +kernel)) ?_
  refine ak (ok_aload_n (k := 0) rfl (by decide +kernel)) ?_
  refine ak (ok_get (k := 0) ck3 kd23 (by decide) (fun _ _ _ => rfl) (vf_23_0 hsd) tw515 (by decide +kernel)) ?_
  refine ak (ok_iload_n (k := 2) rfl (by decide +kernel)) ?_
  refine ak (ok_iconst (n := 1) (by decide) (by decide +kernel)) ?_
  refine ak (ok_iload_n (k := 3) rfl (by decide +kernel)) ?_
  refine ak (ok_ishl (by decide +kernel)) ?_
  refine ak (ok_ior (by decide +kernel)) ?_
  refine ak (ok_iald kd24 (by decide) (by decide +kernel)) ?_
  refine ak (ok_iadd (by decide +kernel)) ?_
  refine ak (ok_ireturn rfl (by decide +kernel)) ?_
  exact trivial
set_option maxRecDepth 1000000 in
theorem eP_winterNext (w1 : Nat) (x2 : Int32) (x3 : Int32) (M : Mem) : run (cP_winterNext) (fun _ _ _ _ => none) rtI 400 (seek (cP_winterNext) 0) [aR (23, 0, 0), aR (1, w1, 0), aI x2, aI x3, aU] [] M = mP_winterNext w1 x2 x3 M := id rfl
theorem lP_winterNext {E : EV} {l : Launch} {p : Program} {e : Env} {s : State} {m : MethodId} {args : Array Value} {below : List Frame} {meth : Method} {c : Code} (A : AllOK E l 2 "FreeLances$Plans" prog_5_method_8_code 5 (some .int) outI (cP_winterNext)) (C : Cx E p s m args meth c "FreeLances$Plans" prog_5_method_8_code 5 (some .int)) : ∀ (w1 : Nat) (x2 : Int32) (x3 : Int32) (M : Mem) (res : (Int32 × Mem)), mP_winterNext w1 x2 x3 M = some res → Wm E p l e 2 s m args below meth c 5 0 [aR (23, 0, 0), aR (1, w1, 0), aI x2, aI x3, aU] [] M (outI res).1 (outI res).2 := by
  intro w1 x2 x3 M res h
  refine run_at C A rfl hrtI (n := 400) ((eP_winterNext w1 x2 x3 M).trans h) ?_
  intro t als st M hk; cases hk
def dP_winterNext {β : Type} : Den β := fun as M k => match as with
  | [.inr (.inr (.inl (al0, bl0, cl0))), .inr (.inr (.inl (al1, w1, cl1))), .inl x2, .inl x3] => if al0 = 23 ∧ bl0 = 0 ∧ cl0 = 0 ∧ al1 = 1 ∧ cl1 = 0 then (mP_winterNext w1 x2 x3 M).bind fun q => k (aI q.1) q.2 else none
  | _ => none
theorem wP_winterNext {E : EV} (hsd : E.2.2.2 = 0) (l : Launch) (w1 : Nat) (x2 : Int32) (x3 : Int32) (M : Mem) (q : (Int32 × Mem)) (hq : mP_winterNext w1 x2 x3 M = some q) : Con E l 2 yP_winterNext prog_5_method_8_code 5 (some .int) [aR (23, 0, 0), aR (1, w1, 0), aI x2, aI x3] M (outI q).1 (outI q).2 := by
  refine con_of iP_winterNext (Nat.le_of_ble_eq_true rfl) ?_
  intro p e s m args below meth c C
  exact lP_winterNext (oP_winterNext hsd l) C w1 x2 x3 M _ hq
theorem kP_winterNext {E : EV} (hsd : E.2.2.2 = 0) (l : Launch) {β : Type} : DenOK E l 2 yP_winterNext prog_5_method_8_code 5 (some .int) true (dP_winterNext (β := β)) := by
  intro as M k res h
  unfold dP_winterNext at h
  split at h
  ·
    split at h
    · rename_i hc
      obtain ⟨rfl, rfl, rfl, rfl, rfl⟩ := hc
      obtain ⟨q, hq, hk⟩ := Option.bind_eq_some_iff.mp h
      exact ⟨aI q.1, q.2, hk, rfl, wP_winterNext hsd l _ _ _ M q hq⟩
    · cases h
  · cases h
theorem qP_winterNext {β : Type} : RecOK 23 (dP_winterNext (β := β)) := by
  intro as M k res h
  unfold dP_winterNext at h
  split at h
  ·
    split at h
    · rename_i hc
      obtain ⟨rfl, rfl, rfl, rfl, rfl⟩ := hc
      exact ⟨_, _, _, rfl⟩
    · cases h
  · cases h
/-! ===== FreeLances$Plans.winterChoice(LFreeLances$World;I)I ===== -/
abbrev yP_winterChoice : MethodName := ⟨"FreeLances$Plans", "winterChoice", "(LFreeLances$World;I)I"⟩
theorem iP_winterChoice : MI yP_winterChoice prog_5_method_7_code 7 (some .int) 2 := ⟨tw1026, tw107, ⟨by decide, by decide⟩, by decide +kernel, by decide, by decide⟩
def cP_winterChoice : List (Ent (Int32 × Mem)) := [(false, 0, 1, sC 0),
  (false, 1, 1, sStI 3),
  (false, 2, 2, sC 1000000000),
  (false, 4, 2, sStI 4),
  (false, 6, 1, sC 0),
  (false, 7, 2, sStI 5),
  (true, 9, 2, sLdI 5),
  (false, 11, 1, sLdA 1),
  (false, 12, 3, sGet 1 (fun w i M => aI (M 1 w i 2))),
  (false, 15, 3, sCmpGe 66),
  (false, 18, 1, sLdI 2),
  (false, 19, 2, sLdI 5),
  (false, 21, 1, sBin (fun x y => x >>> (y &&& 31))),
  (false, 22, 1, sC 1),
  (false, 23, 1, sBin (fun x y => x &&& y)),
  (false, 24, 3, sIfNe 60),
  (false, 27, 1, sLdA 0),
  (false, 28, 1, sLdA 1),
  (false, 29, 1, sLdI 2),
  (false, 30, 2, sLdI 5),
  (false, 32, 3, sInv 4 true dP_winterNext),
  (false, 35, 2, sStI 6),
  (false, 37, 2, sLdI 6),
  (false, 39, 2, sLdI 4),
  (false, 41, 3, sCmpGe 49),
  (false, 44, 2, sLdI 5),
  (false, 46, 3, sGoto 50),
  (false, 49, 1, sLdI 3),
  (false, 50, 1, sStI 3),
  (false, 51, 2, sLdI 4),
  (false, 53, 2, sLdI 6),
  (false, 55, 3, sMin),
  (false, 58, 2, sStI 4),
  (false, 60, 3, sInc 5 1),
  (false, 63, 3, sGoto 9),
  (false, 66, 1, sLdI 3),
  (false, 67, 1, sRetI)]
theorem oP_winterChoice {E : EV} (hsd : E.2.2.2 = 0) (l : Launch) : AllOK E l 3 "FreeLances$Plans" prog_5_method_7_code 7 (some .int) outI (cP_winterChoice) := by
  refine ak (ok_iconst (n := 0) (by decide) (by decide +kernel)) ?_
  refine ak (ok_istore_n (k := 3) rfl (by decide) (by decide +kernel)) ?_
  refine ak (ok_ldc tw1027 (by decide +kernel)) ?_
  refine ak (ok_istore (by decide) (by decide +kernel)) ?_
  refine ak (ok_iconst (n := 0) (by decide) (by decide +kernel)) ?_
  refine ak (ok_istore (by decide) (by decide +kernel)) ?_
  refine ak (ok_iload (by decide +kernel)) ?_
  refine ak (ok_aload_n (k := 1) rfl (by decide +kernel)) ?_
  refine ak (ok_get (k := 2) ck9 kd1 (by decide) (fun _ _ _ => rfl) (fun _ _ _ _ _ => trivial) tw392 (by decide +kernel)) ?_
  refine ak (ok_icmp_ge (off := 51) (by decide) (by decide +kernel)) ?_
  refine ak (ok_iload_n (k := 2) rfl (by decide +kernel)) ?_
  refine ak (ok_iload (by decide +kernel)) ?_
  refine ak (ok_ishr (by decide +kernel)) ?_
  refine ak (ok_iconst (n := 1) (by decide) (by decide +kernel)) ?_
  refine ak (ok_iand (by decide +kernel)) ?_
  refine ak (ok_if_ne (off := 36) (by decide) (by decide +kernel)) ?_
  refine ak (ok_aload_n (k := 0) rfl (by decide +kernel)) ?_
  refine ak (ok_aload_n (k := 1) rfl (by decide +kernel)) ?_
  refine ak (ok_iload_n (k := 2) rfl (by decide +kernel)) ?_
  refine ak (ok_iload (by decide +kernel)) ?_
  refine ak (ok_invV (r := 23) (kP_winterNext hsd l) qP_winterNext ck3 kd23 iP_winterNext tw1030 tw25 (by decide) tw1028 (by decide +kernel)) ?_
  refine ak (ok_istore (by decide) (by decide +kernel)) ?_
  refine ak (ok_iload (by decide +kernel)) ?_
  refine ak (ok_iload (by decide +kernel)) ?_
  refine ak (ok_icmp_ge (off := 8) (by decide) (by decide +kernel)) ?_
  refine ak (ok_iload (by decide +kernel)) ?_
  refine ak (ok_goto (off := 4) (by decide) (by decide +kernel)) ?_
  refine ak (ok_iload_n (k := 3) rfl (by decide +kernel)) ?_
  refine ak (ok_istore_n (k := 3) rfl (by decide) (by decide +kernel)) ?_
  refine ak (ok_iload (by decide +kernel)) ?_
  refine ak (ok_iload (by decide +kernel)) ?_
  refine ak (ok_mmin (by decide) tw1032 tw581 tw109 twMmin (by decide +kernel)) ?_
  refine ak (ok_istore (by decide) (by decide +kernel)) ?_
  refine ak (ok_iinc (n := 1) (by decide) (by decide) (by decide +kernel)) ?_
  refine ak (ok_goto (off := (-54)) (by decide) (by decide +kernel)) ?_
  refine ak (ok_iload_n (k := 3) rfl (by decide +kernel)) ?_
  refine ak (ok_ireturn rfl (by decide +kernel)) ?_
  exact trivial
def KP_winterChoice_9 (j9 : Nat → Int32 → Int32 → Int32 → Int32 → Mem → Option (Int32 × Mem)) : Jm (Int32 × Mem) := fun t als st M =>
  if t = 9 then (match als, st with
  | [.inr (.inr (.inl (al0, bl0, cl0))), .inr (.inr (.inl (al1, w1, cl1))), .inl x2, .inl x3, .inl x4, .inl x5, _], [] => if al0 = 23 ∧ bl0 = 0 ∧ cl0 = 0 ∧ al1 = 1 ∧ cl1 = 0 then j9 w1 x2 x3 x4 x5 M else none
  | _, _ => none) else
  none
set_option maxRecDepth 1000000 in
theorem eP_winterChoice_9 (j9 : Nat → Int32 → Int32 → Int32 → Int32 → Mem → Option (Int32 × Mem)) (w1 : Nat) (x2 : Int32) (x3 : Int32) (x4 : Int32) (x5 : Int32) (M : Mem) (u6 : AV) : run (cP_winterChoice) (KP_winterChoice_9 j9) rtI 400 (seek (cP_winterChoice) 9) [aR (23, 0, 0), aR (1, w1, 0), aI x2, aI x3, aI x4, aI x5, u6] [] M = mP_winterChoice_9b j9 w1 x2 x3 x4 x5 M := id rfl
theorem lP_winterChoice_9 {E : EV} {l : Launch} {p : Program} {e : Env} {s : State} {m : MethodId} {args : Array Value} {below : List Frame} {meth : Method} {c : Code} (A : AllOK E l 3 "FreeLances$Plans" prog_5_method_7_code 7 (some .int) outI (cP_winterChoice)) (C : Cx E p s m args meth c "FreeLances$Plans" prog_5_method_7_code 7 (some .int)) : ∀ (n : Nat), ∀ (w1 : Nat) (x2 : Int32) (x3 : Int32) (x4 : Int32) (x5 : Int32) (M : Mem) (res : (Int32 × Mem)), mP_winterChoice_9 n w1 x2 x3 x4 x5 M = some res → ∀ (u6 : AV), Wm E p l e 3 s m args below meth c 7 9 [aR (23, 0, 0), aR (1, w1, 0), aI x2, aI x3, aI x4, aI x5, u6] [] M (outI res).1 (outI res).2 := by
  intro n
  induction n with
  | zero => intro _ _ _ _ _ M res h; cases h
  | succ n ih =>
    intro w1 x2 x3 x4 x5 M res h u6
    refine run_at C A rfl hrtI (n := 400) ((eP_winterChoice_9 (mP_winterChoice_9 n) w1 x2 x3 x4 x5 M u6).trans h) ?_
    intro t als st M hk
    unfold KP_winterChoice_9 at hk
    split at hk
    · rename_i ht
      subst ht
      split at hk
      · split at hk
        · rename_i hc
          obtain ⟨rfl, rfl, rfl, rfl, rfl⟩ := hc
          exact ih _ _ _ _ _ _ _ hk _
        · cases hk
      · cases hk
    cases hk
def KP_winterChoice (j9 : Nat → Int32 → Int32 → Int32 → Int32 → Mem → Option (Int32 × Mem)) : Jm (Int32 × Mem) := fun t als st M =>
  if t = 9 then (match als, st with
  | [.inr (.inr (.inl (al0, bl0, cl0))), .inr (.inr (.inl (al1, w1, cl1))), .inl x2, .inl x3, .inl x4, .inl x5, _], [] => if al0 = 23 ∧ bl0 = 0 ∧ cl0 = 0 ∧ al1 = 1 ∧ cl1 = 0 then j9 w1 x2 x3 x4 x5 M else none
  | _, _ => none) else
  none
set_option maxRecDepth 1000000 in
theorem eP_winterChoice (j9 : Nat → Int32 → Int32 → Int32 → Int32 → Mem → Option (Int32 × Mem)) (w1 : Nat) (x2 : Int32) (M : Mem) : run (cP_winterChoice) (KP_winterChoice j9) rtI 400 (seek (cP_winterChoice) 0) [aR (23, 0, 0), aR (1, w1, 0), aI x2, aU, aU, aU, aU] [] M = mP_winterChoiceb j9 w1 x2 M := id rfl
theorem lP_winterChoice {E : EV} {l : Launch} {p : Program} {e : Env} {s : State} {m : MethodId} {args : Array Value} {below : List Frame} {meth : Method} {c : Code} (A : AllOK E l 3 "FreeLances$Plans" prog_5_method_7_code 7 (some .int) outI (cP_winterChoice)) (C : Cx E p s m args meth c "FreeLances$Plans" prog_5_method_7_code 7 (some .int)) : ∀ (w1 : Nat) (x2 : Int32) (M : Mem) (res : (Int32 × Mem)), mP_winterChoice w1 x2 M = some res → Wm E p l e 3 s m args below meth c 7 0 [aR (23, 0, 0), aR (1, w1, 0), aI x2, aU, aU, aU, aU] [] M (outI res).1 (outI res).2 := by
  intro w1 x2 M res h
  refine run_at C A rfl hrtI (n := 400) ((eP_winterChoice (mP_winterChoice_9 fuel) w1 x2 M).trans h) ?_
  intro t als st M hk
  unfold KP_winterChoice at hk
  split at hk
  · rename_i ht
    subst ht
    split at hk
    · split at hk
      · rename_i hc
        obtain ⟨rfl, rfl, rfl, rfl, rfl⟩ := hc
        exact lP_winterChoice_9 A C _ _ _ _ _ _ _ _ hk _
      · cases hk
    · cases hk
  cases hk
def dP_winterChoice {β : Type} : Den β := fun as M k => match as with
  | [.inr (.inr (.inl (al0, bl0, cl0))), .inr (.inr (.inl (al1, w1, cl1))), .inl x2] => if al0 = 23 ∧ bl0 = 0 ∧ cl0 = 0 ∧ al1 = 1 ∧ cl1 = 0 then (mP_winterChoice w1 x2 M).bind fun q => k (aI q.1) q.2 else none
  | _ => none
theorem wP_winterChoice {E : EV} (hsd : E.2.2.2 = 0) (l : Launch) (w1 : Nat) (x2 : Int32) (M : Mem) (q : (Int32 × Mem)) (hq : mP_winterChoice w1 x2 M = some q) : Con E l 3 yP_winterChoice prog_5_method_7_code 7 (some .int) [aR (23, 0, 0), aR (1, w1, 0), aI x2] M (outI q).1 (outI q).2 := by
  refine con_of iP_winterChoice (Nat.le_of_ble_eq_true rfl) ?_
  intro p e s m args below meth c C
  exact lP_winterChoice (oP_winterChoice hsd l) C w1 x2 M _ hq
theorem kP_winterChoice {E : EV} (hsd : E.2.2.2 = 0) (l : Launch) {β : Type} : DenOK E l 3 yP_winterChoice prog_5_method_7_code 7 (some .int) true (dP_winterChoice (β := β)) := by
  intro as M k res h
  unfold dP_winterChoice at h
  split at h
  ·
    split at h
    · rename_i hc
      obtain ⟨rfl, rfl, rfl, rfl, rfl⟩ := hc
      obtain ⟨q, hq, hk⟩ := Option.bind_eq_some_iff.mp h
      exact ⟨aI q.1, q.2, hk, rfl, wP_winterChoice hsd l _ _ M q hq⟩
    · cases h
  · cases h
theorem qP_winterChoice {β : Type} : RecOK 23 (dP_winterChoice (β := β)) := by
  intro as M k res h
  unfold dP_winterChoice at h
  split at h
  ·
    split at h
    · rename_i hc
      obtain ⟨rfl, rfl, rfl, rfl, rfl⟩ := hc
      exact ⟨_, _, _, rfl⟩
    · cases h
  · cases h
/-! ===== FreeLances$Plans.winterCost(LFreeLances$World;)I ===== -/
abbrev yP_winterCost : MethodName := ⟨"FreeLances$Plans", "winterCost", "(LFreeLances$World;)I"⟩
theorem iP_winterCost : MI yP_winterCost prog_5_method_5_code 3 (some .int) 1 := ⟨tw1016, tw107, ⟨by decide, by decide⟩, by decide +kernel, by decide, by decide⟩
def cP_winterCost : List (Ent (Int32 × Mem)) := [(false, 0, 1, sC 1),
  (false, 1, 1, sLdA 1),
  (false, 2, 3, sGet 1 (fun w i M => aI (M 1 w i 2))),
  (false, 5, 1, sBin (fun x y => x <<< (y &&& 31))),
  (false, 6, 1, sC 1),
  (false, 7, 1, sBin (fun x y => x - y)),
  (false, 8, 1, sStI 2),
  (true, 9, 1, sLdI 2),
  (false, 10, 3, sIfLt 55),
  (false, 13, 1, sLdA 0),
  (false, 14, 3, sGet 23 (fun w i M => aR (24, 0, 0))),
  (false, 17, 1, sLdI 2),
  (false, 18, 1, sC 0),
  (false, 19, 1, sIast 24 256),
  (false, 20, 1, sLdI 2),
  (false, 21, 3, sInv 1 true dJ_bitCount),
  (false, 24, 1, sLdA 1),
  (false, 25, 3, sGet 1 (fun w i M => aI (M 1 w i 6))),
  (false, 28, 3, sCmpGe 49),
  (false, 31, 1, sLdA 0),
  (false, 32, 3, sGet 23 (fun w i M => aR (24, 0, 0))),
  (false, 35, 1, sLdI 2),
  (false, 36, 1, sLdA 0),
  (false, 37, 1, sLdA 1),
  (false, 38, 1, sLdI 2),
  (false, 39, 1, sLdA 0),
  (false, 40, 1, sLdA 1),
  (false, 41, 1, sLdI 2),
  (false, 42, 3, sInv 3 true dP_winterChoice),
  (false, 45, 3, sInv 4 true dP_winterNext),
  (false, 48, 1, sIast 24 256),
  (false, 49, 3, sInc 2 (-1)),
  (false, 52, 3, sGoto 9),
  (false, 55, 1, sLdA 0),
  (false, 56, 3, sGet 23 (fun w i M => aR (24, 0, 0))),
  (false, 59, 1, sC 0),
  (false, 60, 1, sIald 24 256),
  (false, 61, 1, sRetI)]
theorem oP_winterCost {E : EV} (hsd : E.2.2.2 = 0) (l : Launch) : AllOK E l 4 "FreeLances$Plans" prog_5_method_5_code 3 (some .int) outI (cP_winterCost) := by
  refine ak (ok_iconst (n := 1) (by decide) (by decide +kernel)) ?_
  refine ak (ok_aload_n (k := 1) rfl (by decide +kernel)) ?_
  refine ak (ok_get (k := 2) ck9 kd1 (by decide) (fun _ _ _ => rfl) (fun _ _ _ _ _ => trivial) tw392 (by decide +kernel)) ?_
  refine ak (ok_ishl (by decide +kernel)) ?_
  refine ak (ok_iconst (n := 1) (by decide) (by decide +kernel)) ?_
  refine ak (ok_isub (by decide +kernel)) ?_
  refine ak (ok_istore_n (k := 2) rfl (by decide) (by decide +kernel)) ?_
  refine ak (ok_iload_n (k := 2) rfl (by decide +kernel)) ?_
  refine ak (ok_if_lt (off := 45) (by decide) (by decide +kernel)) ?_
  refine ak (ok_aload_n (k := 0) rfl (by decide +kernel)) ?_
  refine ak (ok_get (k := 0) ck3 kd23 (by decide) (fun _ _ _ => rfl) (vf_23_0 hsd) tw515 (by decide +kernel)) ?_
  refine ak (ok_iload_n (k := 2) rfl (by decide +kernel)) ?_
  refine ak (ok_iconst (n := 0) (by decide) (by decide +kernel)) ?_
  refine ak (ok_iast kd24 (by decide) (by decide) (by decide +kernel)) ?_
  refine ak (ok_iload_n (k := 2) rfl (by decide +kernel)) ?_
  refine ak (ok_invS (kJ_bitCount hsd l) iJ_bitCount tw1018 (by decide) tw1017 (by decide +kernel)) ?_
  refine ak (ok_aload_n (k := 1) rfl (by decide +kernel)) ?_
  refine ak (ok_get (k := 6) ck9 kd1 (by decide) (fun _ _ _ => rfl) (fun _ _ _ _ _ => trivial) tw400 (by decide +kernel)) ?_
  refine ak (ok_icmp_ge (off := 21) (by decide) (by decide +kernel)) ?_
  refine ak (ok_aload_n (k := 0) rfl (by decide +kernel)) ?_
  refine ak (ok_get (k := 0) ck3 kd23 (by decide) (fun _ _ _ => rfl) (vf_23_0 hsd) tw515 (by decide +kernel)) ?_
  refine ak (ok_iload_n (k := 2) rfl (by decide +kernel)) ?_
  refine ak (ok_aload_n (k := 0) rfl (by decide +kernel)) ?_
  refine ak (ok_aload_n (k := 1) rfl (by decide +kernel)) ?_
  refine ak (ok_iload_n (k := 2) rfl (by decide +kernel)) ?_
  refine ak (ok_aload_n (k := 0) rfl (by decide +kernel)) ?_
  refine ak (ok_aload_n (k := 1) rfl (by decide +kernel)) ?_
  refine ak (ok_iload_n (k := 2) rfl (by decide +kernel)) ?_
  refine ak (ok_invV (r := 23) (kP_winterChoice hsd l) qP_winterChoice ck3 kd23 iP_winterChoice tw1025 tw24 (by decide) tw1023 (by decide +kernel)) ?_
  refine ak (ok_invV (r := 23) (kP_winterNext hsd l) qP_winterNext ck3 kd23 iP_winterNext tw1030 tw25 (by decide) tw1028 (by decide +kernel)) ?_
  refine ak (ok_iast kd24 (by decide) (by decide) (by decide +kernel)) ?_
  refine ak (ok_iinc (n := (-1)) (by decide) (by decide) (by decide +kernel)) ?_
  refine ak (ok_goto (off := (-43)) (by decide) (by decide +kernel)) ?_
  refine ak (ok_aload_n (k := 0) rfl (by decide +kernel)) ?_
  refine ak (ok_get (k := 0) ck3 kd23 (by decide) (fun _ _ _ => rfl) (vf_23_0 hsd) tw515 (by decide +kernel)) ?_
  refine ak (ok_iconst (n := 0) (by decide) (by decide +kernel)) ?_
  refine ak (ok_iald kd24 (by decide) (by decide +kernel)) ?_
  refine ak (ok_ireturn rfl (by decide +kernel)) ?_
  exact trivial
def KP_winterCost_9 (j9 : Nat → Int32 → Mem → Option (Int32 × Mem)) : Jm (Int32 × Mem) := fun t als st M =>
  if t = 9 then (match als, st with
  | [.inr (.inr (.inl (al0, bl0, cl0))), .inr (.inr (.inl (al1, w1, cl1))), .inl x2], [] => if al0 = 23 ∧ bl0 = 0 ∧ cl0 = 0 ∧ al1 = 1 ∧ cl1 = 0 then j9 w1 x2 M else none
  | _, _ => none) else
  none
set_option maxRecDepth 1000000 in
theorem eP_winterCost_9 (j9 : Nat → Int32 → Mem → Option (Int32 × Mem)) (w1 : Nat) (x2 : Int32) (M : Mem) : run (cP_winterCost) (KP_winterCost_9 j9) rtI 400 (seek (cP_winterCost) 9) [aR (23, 0, 0), aR (1, w1, 0), aI x2] [] M = mP_winterCost_9b j9 w1 x2 M := id rfl
theorem lP_winterCost_9 {E : EV} {l : Launch} {p : Program} {e : Env} {s : State} {m : MethodId} {args : Array Value} {below : List Frame} {meth : Method} {c : Code} (A : AllOK E l 4 "FreeLances$Plans" prog_5_method_5_code 3 (some .int) outI (cP_winterCost)) (C : Cx E p s m args meth c "FreeLances$Plans" prog_5_method_5_code 3 (some .int)) : ∀ (n : Nat), ∀ (w1 : Nat) (x2 : Int32) (M : Mem) (res : (Int32 × Mem)), mP_winterCost_9 n w1 x2 M = some res → Wm E p l e 4 s m args below meth c 3 9 [aR (23, 0, 0), aR (1, w1, 0), aI x2] [] M (outI res).1 (outI res).2 := by
  intro n
  induction n with
  | zero => intro _ _ M res h; cases h
  | succ n ih =>
    intro w1 x2 M res h
    refine run_at C A rfl hrtI (n := 400) ((eP_winterCost_9 (mP_winterCost_9 n) w1 x2 M).trans h) ?_
    intro t als st M hk
    unfold KP_winterCost_9 at hk
    split at hk
    · rename_i ht
      subst ht
      split at hk
      · split at hk
        · rename_i hc
          obtain ⟨rfl, rfl, rfl, rfl, rfl⟩ := hc
          exact ih _ _ _ _ hk
        · cases hk
      · cases hk
    cases hk
def KP_winterCost (j9 : Nat → Int32 → Mem → Option (Int32 × Mem)) : Jm (Int32 × Mem) := fun t als st M =>
  if t = 9 then (match als, st with
  | [.inr (.inr (.inl (al0, bl0, cl0))), .inr (.inr (.inl (al1, w1, cl1))), .inl x2], [] => if al0 = 23 ∧ bl0 = 0 ∧ cl0 = 0 ∧ al1 = 1 ∧ cl1 = 0 then j9 w1 x2 M else none
  | _, _ => none) else
  none
set_option maxRecDepth 1000000 in
theorem eP_winterCost (j9 : Nat → Int32 → Mem → Option (Int32 × Mem)) (w1 : Nat) (M : Mem) : run (cP_winterCost) (KP_winterCost j9) rtI 400 (seek (cP_winterCost) 0) [aR (23, 0, 0), aR (1, w1, 0), aU] [] M = mP_winterCostb j9 w1 M := id rfl
theorem lP_winterCost {E : EV} {l : Launch} {p : Program} {e : Env} {s : State} {m : MethodId} {args : Array Value} {below : List Frame} {meth : Method} {c : Code} (A : AllOK E l 4 "FreeLances$Plans" prog_5_method_5_code 3 (some .int) outI (cP_winterCost)) (C : Cx E p s m args meth c "FreeLances$Plans" prog_5_method_5_code 3 (some .int)) : ∀ (w1 : Nat) (M : Mem) (res : (Int32 × Mem)), mP_winterCost w1 M = some res → Wm E p l e 4 s m args below meth c 3 0 [aR (23, 0, 0), aR (1, w1, 0), aU] [] M (outI res).1 (outI res).2 := by
  intro w1 M res h
  refine run_at C A rfl hrtI (n := 400) ((eP_winterCost (mP_winterCost_9 fuel) w1 M).trans h) ?_
  intro t als st M hk
  unfold KP_winterCost at hk
  split at hk
  · rename_i ht
    subst ht
    split at hk
    · split at hk
      · rename_i hc
        obtain ⟨rfl, rfl, rfl, rfl, rfl⟩ := hc
        exact lP_winterCost_9 A C _ _ _ _ _ hk
      · cases hk
    · cases hk
  cases hk
def dP_winterCost {β : Type} : Den β := fun as M k => match as with
  | [.inr (.inr (.inl (al0, bl0, cl0))), .inr (.inr (.inl (al1, w1, cl1)))] => if al0 = 23 ∧ bl0 = 0 ∧ cl0 = 0 ∧ al1 = 1 ∧ cl1 = 0 then (mP_winterCost w1 M).bind fun q => k (aI q.1) q.2 else none
  | _ => none
theorem wP_winterCost {E : EV} (hsd : E.2.2.2 = 0) (l : Launch) (w1 : Nat) (M : Mem) (q : (Int32 × Mem)) (hq : mP_winterCost w1 M = some q) : Con E l 4 yP_winterCost prog_5_method_5_code 3 (some .int) [aR (23, 0, 0), aR (1, w1, 0)] M (outI q).1 (outI q).2 := by
  refine con_of iP_winterCost (Nat.le_of_ble_eq_true rfl) ?_
  intro p e s m args below meth c C
  exact lP_winterCost (oP_winterCost hsd l) C w1 M _ hq
theorem kP_winterCost {E : EV} (hsd : E.2.2.2 = 0) (l : Launch) {β : Type} : DenOK E l 4 yP_winterCost prog_5_method_5_code 3 (some .int) true (dP_winterCost (β := β)) := by
  intro as M k res h
  unfold dP_winterCost at h
  split at h
  ·
    split at h
    · rename_i hc
      obtain ⟨rfl, rfl, rfl, rfl, rfl⟩ := hc
      obtain ⟨q, hq, hk⟩ := Option.bind_eq_some_iff.mp h
      exact ⟨aI q.1, q.2, hk, rfl, wP_winterCost hsd l _ M q hq⟩
    · cases h
  · cases h
theorem qP_winterCost {β : Type} : RecOK 23 (dP_winterCost (β := β)) := by
  intro as M k res h
  unfold dP_winterCost at h
  split at h
  ·
    split at h
    · rename_i hc
      obtain ⟨rfl, rfl, rfl, rfl, rfl⟩ := hc
      exact ⟨_, _, _, rfl⟩
    · cases h
  · cases h
/-! ===== FreeLances$Plans.winterTown(LFreeLances$World;I)I ===== -/
abbrev yP_winterTown : MethodName := ⟨"FreeLances$Plans", "winterTown", "(LFreeLances$World;I)I"⟩
theorem iP_winterTown : MI yP_winterTown prog_5_method_6_code 6 (some .int) 2 := ⟨tw1036, tw107, ⟨by decide, by decide⟩, by decide +kernel, by decide, by decide⟩
def cP_winterTown : List (Ent (Int32 × Mem)) := [(false, 0, 1, sC 0),
  (false, 1, 1, sStI 3),
  (false, 2, 1, sLdA 0),
  (false, 3, 1, sLdA 1),
  (false, 4, 1, sLdI 3),
  (false, 5, 3, sInv 3 true dP_winterChoice),
  (false, 8, 2, sStI 4),
  (false, 10, 1, sC 0),
  (false, 11, 2, sStI 5),
  (true, 13, 2, sLdI 5),
  (false, 15, 1, sLdI 2),
  (false, 16, 3, sCmpGe 40),
  (false, 19, 1, sLdI 3),
  (false, 20, 1, sC 1),
  (false, 21, 2, sLdI 4),
  (false, 23, 1, sBin (fun x y => x <<< (y &&& 31))),
  (false, 24, 1, sBin (fun x y => x ||| y)),
  (false, 25, 1, sStI 3),
  (false, 26, 1, sLdA 0),
  (false, 27, 1, sLdA 1),
  (false, 28, 1, sLdI 3),
  (false, 29, 3, sInv 3 true dP_winterChoice),
  (false, 32, 2, sStI 4),
  (false, 34, 3, sInc 5 1),
  (false, 37, 3, sGoto 13),
  (false, 40, 2, sLdI 4),
  (false, 42, 1, sRetI)]
theorem oP_winterTown {E : EV} (hsd : E.2.2.2 = 0) (l : Launch) : AllOK E l 4 "FreeLances$Plans" prog_5_method_6_code 6 (some .int) outI (cP_winterTown) := by
  refine ak (ok_iconst (n := 0) (by decide) (by decide +kernel)) ?_
  refine ak (ok_istore_n (k := 3) rfl (by decide) (by decide +kernel)) ?_
  refine ak (ok_aload_n (k := 0) rfl (by decide +kernel)) ?_
  refine ak (ok_aload_n (k := 1) rfl (by decide +kernel)) ?_
  refine ak (ok_iload_n (k := 3) rfl (by decide +kernel)) ?_
  refine ak (ok_invV (r := 23) (kP_winterChoice hsd l) qP_winterChoice ck3 kd23 iP_winterChoice tw1025 tw24 (by decide) tw1023 (by decide +kernel)) ?_
  refine ak (ok_istore (by decide) (by decide +kernel)) ?_
  refine ak (ok_iconst (n := 0) (by decide) (by decide +kernel)) ?_
  refine ak (ok_istore (by decide) (by decide +kernel)) ?_
  refine ak (ok_iload (by decide +kernel)) ?_
  refine ak (ok_iload_n (k := 2) rfl (by decide +kernel)) ?_
  refine ak (ok_icmp_ge (off := 24) (by decide) (by decide +kernel)) ?_
  refine ak (ok_iload_n (k := 3) rfl (by decide +kernel)) ?_
  refine ak (ok_iconst (n := 1) (by decide) (by decide +kernel)) ?_
  refine ak (ok_iload (by decide +kernel)) ?_
  refine ak (ok_ishl (by decide +kernel)) ?_
  refine ak (ok_ior (by decide +kernel)) ?_
  refine ak (ok_istore_n (k := 3) rfl (by decide) (by decide +kernel)) ?_
  refine ak (ok_aload_n (k := 0) rfl (by decide +kernel)) ?_
  refine ak (ok_aload_n (k := 1) rfl (by decide +kernel)) ?_
  refine ak (ok_iload_n (k := 3) rfl (by decide +kernel)) ?_
  refine ak (ok_invV (r := 23) (kP_winterChoice hsd l) qP_winterChoice ck3 kd23 iP_winterChoice tw1025 tw24 (by decide) tw1023 (by decide +kernel)) ?_
  refine ak (ok_istore (by decide) (by decide +kernel)) ?_
  refine ak (ok_iinc (n := 1) (by decide) (by decide) (by decide +kernel)) ?_
  refine ak (ok_goto (off := (-24)) (by decide) (by decide +kernel)) ?_
  refine ak (ok_iload (by decide +kernel)) ?_
  refine ak (ok_ireturn rfl (by decide +kernel)) ?_
  exact trivial
def KP_winterTown_13 (j13 : Nat → Int32 → Int32 → Int32 → Int32 → Mem → Option (Int32 × Mem)) : Jm (Int32 × Mem) := fun t als st M =>
  if t = 13 then (match als, st with
  | [.inr (.inr (.inl (al0, bl0, cl0))), .inr (.inr (.inl (al1, w1, cl1))), .inl x2, .inl x3, .inl x4, .inl x5], [] => if al0 = 23 ∧ bl0 = 0 ∧ cl0 = 0 ∧ al1 = 1 ∧ cl1 = 0 then j13 w1 x2 x3 x4 x5 M else none
  | _, _ => none) else
  none
set_option maxRecDepth 1000000 in
theorem eP_winterTown_13 (j13 : Nat → Int32 → Int32 → Int32 → Int32 → Mem → Option (Int32 × Mem)) (w1 : Nat) (x2 : Int32) (x3 : Int32) (x4 : Int32) (x5 : Int32) (M : Mem) : run (cP_winterTown) (KP_winterTown_13 j13) rtI 400 (seek (cP_winterTown) 13) [aR (23, 0, 0), aR (1, w1, 0), aI x2, aI x3, aI x4, aI x5] [] M = mP_winterTown_13b j13 w1 x2 x3 x4 x5 M := id rfl
theorem lP_winterTown_13 {E : EV} {l : Launch} {p : Program} {e : Env} {s : State} {m : MethodId} {args : Array Value} {below : List Frame} {meth : Method} {c : Code} (A : AllOK E l 4 "FreeLances$Plans" prog_5_method_6_code 6 (some .int) outI (cP_winterTown)) (C : Cx E p s m args meth c "FreeLances$Plans" prog_5_method_6_code 6 (some .int)) : ∀ (n : Nat), ∀ (w1 : Nat) (x2 : Int32) (x3 : Int32) (x4 : Int32) (x5 : Int32) (M : Mem) (res : (Int32 × Mem)), mP_winterTown_13 n w1 x2 x3 x4 x5 M = some res → Wm E p l e 4 s m args below meth c 6 13 [aR (23, 0, 0), aR (1, w1, 0), aI x2, aI x3, aI x4, aI x5] [] M (outI res).1 (outI res).2 := by
  intro n
  induction n with
  | zero => intro _ _ _ _ _ M res h; cases h
  | succ n ih =>
    intro w1 x2 x3 x4 x5 M res h
    refine run_at C A rfl hrtI (n := 400) ((eP_winterTown_13 (mP_winterTown_13 n) w1 x2 x3 x4 x5 M).trans h) ?_
    intro t als st M hk
    unfold KP_winterTown_13 at hk
    split at hk
    · rename_i ht
      subst ht
      split at hk
      · split at hk
        · rename_i hc
          obtain ⟨rfl, rfl, rfl, rfl, rfl⟩ := hc
          exact ih _ _ _ _ _ _ _ hk
        · cases hk
      · cases hk
    cases hk
def KP_winterTown (j13 : Nat → Int32 → Int32 → Int32 → Int32 → Mem → Option (Int32 × Mem)) : Jm (Int32 × Mem) := fun t als st M =>
  if t = 13 then (match als, st with
  | [.inr (.inr (.inl (al0, bl0, cl0))), .inr (.inr (.inl (al1, w1, cl1))), .inl x2, .inl x3, .inl x4, .inl x5], [] => if al0 = 23 ∧ bl0 = 0 ∧ cl0 = 0 ∧ al1 = 1 ∧ cl1 = 0 then j13 w1 x2 x3 x4 x5 M else none
  | _, _ => none) else
  none
set_option maxRecDepth 1000000 in
theorem eP_winterTown (j13 : Nat → Int32 → Int32 → Int32 → Int32 → Mem → Option (Int32 × Mem)) (w1 : Nat) (x2 : Int32) (M : Mem) : run (cP_winterTown) (KP_winterTown j13) rtI 400 (seek (cP_winterTown) 0) [aR (23, 0, 0), aR (1, w1, 0), aI x2, aU, aU, aU] [] M = mP_winterTownb j13 w1 x2 M := id rfl
theorem lP_winterTown {E : EV} {l : Launch} {p : Program} {e : Env} {s : State} {m : MethodId} {args : Array Value} {below : List Frame} {meth : Method} {c : Code} (A : AllOK E l 4 "FreeLances$Plans" prog_5_method_6_code 6 (some .int) outI (cP_winterTown)) (C : Cx E p s m args meth c "FreeLances$Plans" prog_5_method_6_code 6 (some .int)) : ∀ (w1 : Nat) (x2 : Int32) (M : Mem) (res : (Int32 × Mem)), mP_winterTown w1 x2 M = some res → Wm E p l e 4 s m args below meth c 6 0 [aR (23, 0, 0), aR (1, w1, 0), aI x2, aU, aU, aU] [] M (outI res).1 (outI res).2 := by
  intro w1 x2 M res h
  refine run_at C A rfl hrtI (n := 400) ((eP_winterTown (mP_winterTown_13 fuel) w1 x2 M).trans h) ?_
  intro t als st M hk
  unfold KP_winterTown at hk
  split at hk
  · rename_i ht
    subst ht
    split at hk
    · split at hk
      · rename_i hc
        obtain ⟨rfl, rfl, rfl, rfl, rfl⟩ := hc
        exact lP_winterTown_13 A C _ _ _ _ _ _ _ _ hk
      · cases hk
    · cases hk
  cases hk
def dP_winterTown {β : Type} : Den β := fun as M k => match as with
  | [.inr (.inr (.inl (al0, bl0, cl0))), .inr (.inr (.inl (al1, w1, cl1))), .inl x2] => if al0 = 23 ∧ bl0 = 0 ∧ cl0 = 0 ∧ al1 = 1 ∧ cl1 = 0 then (mP_winterTown w1 x2 M).bind fun q => k (aI q.1) q.2 else none
  | _ => none
theorem wP_winterTown {E : EV} (hsd : E.2.2.2 = 0) (l : Launch) (w1 : Nat) (x2 : Int32) (M : Mem) (q : (Int32 × Mem)) (hq : mP_winterTown w1 x2 M = some q) : Con E l 4 yP_winterTown prog_5_method_6_code 6 (some .int) [aR (23, 0, 0), aR (1, w1, 0), aI x2] M (outI q).1 (outI q).2 := by
  refine con_of iP_winterTown (Nat.le_of_ble_eq_true rfl) ?_
  intro p e s m args below meth c C
  exact lP_winterTown (oP_winterTown hsd l) C w1 x2 M _ hq
theorem kP_winterTown {E : EV} (hsd : E.2.2.2 = 0) (l : Launch) {β : Type} : DenOK E l 4 yP_winterTown prog_5_method_6_code 6 (some .int) true (dP_winterTown (β := β)) := by
  intro as M k res h
  unfold dP_winterTown at h
  split at h
  ·
    split at h
    · rename_i hc
      obtain ⟨rfl, rfl, rfl, rfl, rfl⟩ := hc
      obtain ⟨q, hq, hk⟩ := Option.bind_eq_some_iff.mp h
      exact ⟨aI q.1, q.2, hk, rfl, wP_winterTown hsd l _ _ M q hq⟩
    · cases h
  · cases h
theorem qP_winterTown {β : Type} : RecOK 23 (dP_winterTown (β := β)) := by
  intro as M k res h
  unfold dP_winterTown at h
  split at h
  ·
    split at h
    · rename_i hc
      obtain ⟨rfl, rfl, rfl, rfl, rfl⟩ := hc
      exact ⟨_, _, _, rfl⟩
    · cases h
  · cases h
/-! ===== FreeLances.wintering(I)I ===== -/
abbrev yF_wintering : MethodName := ⟨"FreeLances", "wintering", "(I)I"⟩
theorem iF_wintering : MI yF_wintering prog_1_method_41_code 3 (some .int) 1 := ⟨tw1012, tw97, ⟨by decide, by decide⟩, by decide +kernel, by decide, by decide⟩
def cF_wintering : List (Ent (Int32 × Mem)) := [(false, 0, 1, sLdI 1),
  (false, 1, 1, sC (-1)),
  (false, 2, 1, sLdA 0),
  (false, 3, 3, sGet 0 (fun w i M => aR (1, 0, 0))),
  (false, 6, 3, sGet 1 (fun w i M => aI (M 1 w i 6))),
  (false, 9, 1, sC 1),
  (false, 10, 1, sBin (fun x y => x - y)),
  (false, 11, 3, sInv 3 true dF_within),
  (false, 14, 3, sIfNe 23),
  (false, 17, 1, sLdA 0),
  (false, 18, 1, sC 1),
  (false, 19, 3, sInv 2 true dF_finding),
  (false, 22, 1, sRetI),
  (false, 23, 1, sLdA 0),
  (false, 24, 3, sGet 0 (fun w i M => aR (1, 0, 0))),
  (false, 27, 3, sGet 1 (fun w i M => aI (M 1 w i 2))),
  (false, 30, 1, sLdA 0),
  (false, 31, 3, sGet 0 (fun w i M => aR (1, 0, 0))),
  (false, 34, 3, sGet 1 (fun w i M => aI (M 1 w i 6))),
  (false, 37, 3, sCmpGe 46),
  (false, 40, 1, sLdA 0),
  (false, 41, 1, sC 3),
  (false, 42, 3, sInv 2 true dF_finding),
  (false, 45, 1, sRetI),
  (false, 46, 1, sLdA 0),
  (false, 47, 3, sGet 0 (fun w i M => aR (23, 0, 0))),
  (false, 50, 1, sLdA 0),
  (false, 51, 3, sGet 0 (fun w i M => aR (1, 0, 0))),
  (false, 54, 3, sInv 2 true dP_winterCost),
  (false, 57, 1, sStI 2),
  (false, 58, 1, sLdI 1),
  (false, 59, 3, sIfGe 66),
  (false, 62, 1, sLdI 2),
  (false, 63, 3, sGoto 78),
  (false, 66, 1, sLdA 0),
  (false, 67, 3, sGet 0 (fun w i M => aR (23, 0, 0))),
  (false, 70, 1, sLdA 0),
  (false, 71, 3, sGet 0 (fun w i M => aR (1, 0, 0))),
  (false, 74, 1, sLdI 1),
  (false, 75, 3, sInv 3 true dP_winterTown),
  (false, 78, 1, sRetI)]
theorem oF_wintering {E : EV} (hsd : E.2.2.2 = 0) (l : Launch) : AllOK E l 5 "FreeLances" prog_1_method_41_code 3 (some .int) outI (cF_wintering) := by
  refine ak (ok_iload_n (k := 1) rfl (by decide +kernel)) ?_
  refine ak (ok_iconst (n := (-1)) (by decide) (by decide +kernel)) ?_
  refine ak (ok_aload_n (k := 0) rfl (by decide +kernel)) ?_
  refine ak (ok_get (k := 0) ck10 kd0 (by decide) (fun _ _ _ => rfl) (vf_0_0 hsd) tw522 (by decide +kernel)) ?_
  refine ak (ok_get (k := 6) ck9 kd1 (by decide) (fun _ _ _ => rfl) (fun _ _ _ _ _ => trivial) tw401 (by decide +kernel)) ?_
  refine ak (ok_iconst (n := 1) (by decide) (by decide +kernel)) ?_
  refine ak (ok_isub (by decide +kernel)) ?_
  refine ak (ok_invS (kF_within hsd l) iF_within tw553 (by decide) tw552 (by decide +kernel)) ?_
  refine ak (ok_if_ne (off := 9) (by decide) (by decide +kernel)) ?_
  refine ak (ok_aload_n (k := 0) rfl (by decide +kernel)) ?_
  refine ak (ok_iconst (n := 1) (by decide) (by decide +kernel)) ?_
  refine ak (ok_invV (r := 0) (kF_finding hsd l) qF_finding ck10 kd0 iF_finding tw557 tw0 (by decide) tw555 (by decide +kernel)) ?_
  refine ak (ok_ireturn rfl (by decide +kernel)) ?_
  refine ak (ok_aload_n (k := 0) rfl (by decide +kernel)) ?_
  refine ak (ok_get (k := 0) ck10 kd0 (by decide) (fun _ _ _ => rfl) (vf_0_0 hsd) tw522 (by decide +kernel)) ?_
  refine ak (ok_get (k := 2) ck9 kd1 (by decide) (fun _ _ _ => rfl) (fun _ _ _ _ _ => trivial) tw391 (by decide +kernel)) ?_
  refine ak (ok_aload_n (k := 0) rfl (by decide +kernel)) ?_
  refine ak (ok_get (k := 0) ck10 kd0 (by decide) (fun _ _ _ => rfl) (vf_0_0 hsd) tw522 (by decide +kernel)) ?_
  refine ak (ok_get (k := 6) ck9 kd1 (by decide) (fun _ _ _ => rfl) (fun _ _ _ _ _ => trivial) tw401 (by decide +kernel)) ?_
  refine ak (ok_icmp_ge (off := 9) (by decide) (by decide +kernel)) ?_
  refine ak (ok_aload_n (k := 0) rfl (by decide +kernel)) ?_
  refine ak (ok_iconst (n := 3) (by decide) (by decide +kernel)) ?_
  refine ak (ok_invV (r := 0) (kF_finding hsd l) qF_finding ck10 kd0 iF_finding tw557 tw0 (by decide) tw555 (by decide +kernel)) ?_
  refine ak (ok_ireturn rfl (by decide +kernel)) ?_
  refine ak (ok_aload_n (k := 0) rfl (by decide +kernel)) ?_
  refine ak (ok_get (k := 5) ck10 kd0 (by decide) (fun _ _ _ => rfl) (vf_0_5 hsd) tw527 (by decide +kernel)) ?_
  refine ak (ok_aload_n (k := 0) rfl (by decide +kernel)) ?_
  refine ak (ok_get (k := 0) ck10 kd0 (by decide) (fun _ _ _ => rfl) (vf_0_0 hsd) tw522 (by decide +kernel)) ?_
  refine ak (ok_invV (r := 23) (kP_winterCost hsd l) qP_winterCost ck3 kd23 iP_winterCost tw1014 tw1015 (by decide) tw1013 (by decide +kernel)) ?_
  refine ak (ok_istore_n (k := 2) rfl (by decide) (by decide +kernel)) ?_
  refine ak (ok_iload_n (k := 1) rfl (by decide +kernel)) ?_
  refine ak (ok_if_ge (off := 7) (by decide) (by decide +kernel)) ?_
  refine ak (ok_iload_n (k := 2) rfl (by decide +kernel)) ?_
  refine ak (ok_goto (off := 15) (by decide) (by decide +kernel)) ?_
  refine ak (ok_aload_n (k := 0) rfl (by decide +kernel)) ?_
  refine ak (ok_get (k := 5) ck10 kd0 (by decide) (fun _ _ _ => rfl) (vf_0_5 hsd) tw527 (by decide +kernel)) ?_
  refine ak (ok_aload_n (k := 0) rfl (by decide +kernel)) ?_
  refine ak (ok_get (k := 0) ck10 kd0 (by decide) (fun _ _ _ => rfl) (vf_0_0 hsd) tw522 (by decide +kernel)) ?_
  refine ak (ok_iload_n (k := 1) rfl (by decide +kernel)) ?_
  refine ak (ok_invV (r := 23) (kP_winterTown hsd l) qP_winterTown ck3 kd23 iP_winterTown tw1034 tw1035 (by decide) tw1033 (by decide +kernel)) ?_
  refine ak (ok_ireturn rfl (by decide +kernel)) ?_
  exact trivial
set_option maxRecDepth 1000000 in
theorem eF_wintering (x1 : Int32) (M : Mem) : run (cF_wintering) (fun _ _ _ _ => none) rtI 400 (seek (cF_wintering) 0) [aR (0, 0, 0), aI x1, aU] [] M = mF_wintering x1 M := id rfl
theorem lF_wintering {E : EV} {l : Launch} {p : Program} {e : Env} {s : State} {m : MethodId} {args : Array Value} {below : List Frame} {meth : Method} {c : Code} (A : AllOK E l 5 "FreeLances" prog_1_method_41_code 3 (some .int) outI (cF_wintering)) (C : Cx E p s m args meth c "FreeLances" prog_1_method_41_code 3 (some .int)) : ∀ (x1 : Int32) (M : Mem) (res : (Int32 × Mem)), mF_wintering x1 M = some res → Wm E p l e 5 s m args below meth c 3 0 [aR (0, 0, 0), aI x1, aU] [] M (outI res).1 (outI res).2 := by
  intro x1 M res h
  refine run_at C A rfl hrtI (n := 400) ((eF_wintering x1 M).trans h) ?_
  intro t als st M hk; cases hk
def dF_wintering {β : Type} : Den β := fun as M k => match as with
  | [.inr (.inr (.inl (al0, bl0, cl0))), .inl x1] => if al0 = 0 ∧ bl0 = 0 ∧ cl0 = 0 then (mF_wintering x1 M).bind fun q => k (aI q.1) q.2 else none
  | _ => none
theorem wF_wintering {E : EV} (hsd : E.2.2.2 = 0) (l : Launch) (x1 : Int32) (M : Mem) (q : (Int32 × Mem)) (hq : mF_wintering x1 M = some q) : Con E l 5 yF_wintering prog_1_method_41_code 3 (some .int) [aR (0, 0, 0), aI x1] M (outI q).1 (outI q).2 := by
  refine con_of iF_wintering (Nat.le_of_ble_eq_true rfl) ?_
  intro p e s m args below meth c C
  exact lF_wintering (oF_wintering hsd l) C x1 M _ hq
theorem kF_wintering {E : EV} (hsd : E.2.2.2 = 0) (l : Launch) {β : Type} : DenOK E l 5 yF_wintering prog_1_method_41_code 3 (some .int) true (dF_wintering (β := β)) := by
  intro as M k res h
  unfold dF_wintering at h
  split at h
  ·
    split at h
    · rename_i hc
      obtain ⟨rfl, rfl, rfl⟩ := hc
      obtain ⟨q, hq, hk⟩ := Option.bind_eq_some_iff.mp h
      exact ⟨aI q.1, q.2, hk, rfl, wF_wintering hsd l _ M q hq⟩
    · cases h
  · cases h
theorem qF_wintering {β : Type} : RecOK 0 (dF_wintering (β := β)) := by
  intro as M k res h
  unfold dF_wintering at h
  split at h
  ·
    split at h
    · rename_i hc
      obtain ⟨rfl, rfl, rfl⟩ := hc
      exact ⟨_, _, _, rfl⟩
    · cases h
  · cases h
/-! ===== FreeLances$Plans.hirePlace(II)I ===== -/
abbrev yP_hirePlace : MethodName := ⟨"FreeLances$Plans", "hirePlace", "(II)I"⟩
theorem iP_hirePlace : MI yP_hirePlace prog_5_method_11_code 2 (some .int) 2 := ⟨tw1047, tw107, ⟨by decide, by decide⟩, by decide +kernel, by decide, by decide⟩
def cP_hirePlace : List (Ent (Int32 × Mem)) := [(false, 0, 1, sLdI 0),
  (false, 1, 2, sC 6),
  (false, 3, 1, sBin (fun x y => x * y)),
  (false, 4, 1, sLdI 1),
  (false, 5, 1, sBin (fun x y => x + y)),
  (false, 6, 1, sC 1),
  (false, 7, 1, sBin (fun x y => x + y)),
  (false, 8, 1, sRetI)]
theorem oP_hirePlace {E : EV} (hsd : E.2.2.2 = 0) (l : Launch) : AllOK E l 1 "FreeLances$Plans" prog_5_method_11_code 2 (some .int) outI (cP_hirePlace) := by
  refine ak (ok_iload_n (k := 0) rfl (by decide +kernel)) ?_
  refine ak (ok_bipush (n := 6) (by decide) (by decide +kernel)) ?_
  refine ak (ok_imul (by decide +kernel)) ?_
  refine ak (ok_iload_n (k := 1) rfl (by decide +kernel)) ?_
  refine ak (ok_iadd (by decide +kernel)) ?_
  refine ak (ok_iconst (n := 1) (by decide) (by decide +kernel)) ?_
  refine ak (ok_iadd (by decide +kernel)) ?_
  refine ak (ok_ireturn rfl (by decide +kernel)) ?_
  exact trivial
set_option maxRecDepth 1000000 in
theorem eP_hirePlace (x0 : Int32) (x1 : Int32) (M : Mem) : run (cP_hirePlace) (fun _ _ _ _ => none) rtI 400 (seek (cP_hirePlace) 0) [aI x0, aI x1] [] M = mP_hirePlace x0 x1 M := id rfl
theorem lP_hirePlace {E : EV} {l : Launch} {p : Program} {e : Env} {s : State} {m : MethodId} {args : Array Value} {below : List Frame} {meth : Method} {c : Code} (A : AllOK E l 1 "FreeLances$Plans" prog_5_method_11_code 2 (some .int) outI (cP_hirePlace)) (C : Cx E p s m args meth c "FreeLances$Plans" prog_5_method_11_code 2 (some .int)) : ∀ (x0 : Int32) (x1 : Int32) (M : Mem) (res : (Int32 × Mem)), mP_hirePlace x0 x1 M = some res → Wm E p l e 1 s m args below meth c 2 0 [aI x0, aI x1] [] M (outI res).1 (outI res).2 := by
  intro x0 x1 M res h
  refine run_at C A rfl hrtI (n := 400) ((eP_hirePlace x0 x1 M).trans h) ?_
  intro t als st M hk; cases hk
def dP_hirePlace {β : Type} : Den β := fun as M k => match as with
  | [.inl x0, .inl x1] => (mP_hirePlace x0 x1 M).bind fun q => k (aI q.1) q.2
  | _ => none
theorem wP_hirePlace {E : EV} (hsd : E.2.2.2 = 0) (l : Launch) (x0 : Int32) (x1 : Int32) (M : Mem) (q : (Int32 × Mem)) (hq : mP_hirePlace x0 x1 M = some q) : Con E l 1 yP_hirePlace prog_5_method_11_code 2 (some .int) [aI x0, aI x1] M (outI q).1 (outI q).2 := by
  refine con_of iP_hirePlace (Nat.le_of_ble_eq_true rfl) ?_
  intro p e s m args below meth c C
  exact lP_hirePlace (oP_hirePlace hsd l) C x0 x1 M _ hq
theorem kP_hirePlace {E : EV} (hsd : E.2.2.2 = 0) (l : Launch) {β : Type} : DenOK E l 1 yP_hirePlace prog_5_method_11_code 2 (some .int) true (dP_hirePlace (β := β)) := by
  intro as M k res h
  unfold dP_hirePlace at h
  split at h
  · obtain ⟨q, hq, hk⟩ := Option.bind_eq_some_iff.mp h
    exact ⟨aI q.1, q.2, hk, rfl, wP_hirePlace hsd l _ _ M q hq⟩
  · cases h
/-! ===== FreeLances$Plans.hireNext(LFreeLances$World;[IIII)I ===== -/
abbrev yP_hireNext : MethodName := ⟨"FreeLances$Plans", "hireNext", "(LFreeLances$World;[IIII)I"⟩
theorem iP_hireNext : MI yP_hireNext prog_5_method_13_code 8 (some .int) 5 := ⟨tw1055, tw107, ⟨by decide, by decide⟩, by decide +kernel, by decide, by decide⟩
def cP_hireNext : List (Ent (Int32 × Mem)) := [(false, 0, 2, sLdI 5),
  (false, 2, 3, sIfGe 9),
  (false, 5, 1, sC 0),
  (false, 6, 3, sGoto 19),
  (false, 9, 1, sLdA 1),
  (false, 10, 3, sGet 1 (fun w i M => aR (5, w, 0))),
  (false, 13, 2, sLdI 5),
  (false, 15, 1, sAald 5 5 6),
  (false, 16, 3, sGet 6 (fun w i M => aI (M 6 w i 6))),
  (false, 19, 2, sStI 6),
  (false, 21, 2, sLdI 6),
  (false, 23, 1, sLdA 2),
  (false, 24, 1, sC 3),
  (false, 25, 1, sLdI 3),
  (false, 26, 1, sBin (fun x y => x * y)),
  (false, 27, 1, sC 2),
  (false, 28, 1, sBin (fun x y => x + y)),
  (false, 29, 1, sIald 20 24),
  (false, 30, 1, sBin (fun x y => x * y)),
  (false, 31, 2, sStI 7),
  (false, 33, 2, sLdI 5),
  (false, 35, 3, sIfLt 48),
  (false, 38, 2, sLdI 5),
  (false, 40, 2, sLdI 4),
  (false, 42, 3, sCmpEq 48),
  (false, 45, 3, sInc 7 10),
  (true, 48, 2, sLdI 6),
  (false, 50, 1, sLdA 2),
  (false, 51, 1, sC 3),
  (false, 52, 1, sLdI 3),
  (false, 53, 1, sBin (fun x y => x * y)),
  (false, 54, 1, sIald 20 24),
  (false, 55, 3, sCmpGe 70),
  (false, 58, 2, sLdI 7),
  (false, 60, 1, sLdA 2),
  (false, 61, 1, sC 3),
  (false, 62, 1, sLdI 3),
  (false, 63, 1, sBin (fun x y => x * y)),
  (false, 64, 1, sC 1),
  (false, 65, 1, sBin (fun x y => x + y)),
  (false, 66, 1, sIald 20 24),
  (false, 67, 1, sBin (fun x y => x + y)),
  (false, 68, 2, sStI 7),
  (false, 70, 2, sLdI 7),
  (false, 72, 1, sLdA 0),
  (false, 73, 3, sGet 23 (fun w i M => aR (25, 0, 0))),
  (false, 76, 1, sLdI 3),
  (false, 77, 1, sC 1),
  (false, 78, 1, sBin (fun x y => x + y)),
  (false, 79, 2, sLdI 5),
  (false, 81, 3, sInv 2 true dP_hirePlace),
  (false, 84, 1, sIald 25 36),
  (false, 85, 1, sBin (fun x y => x + y)),
  (false, 86, 1, sRetI)]
theorem oP_hireNext {E : EV} (hsd : E.2.2.2 = 0) (l : Launch) : AllOK E l 2 "FreeLances$Plans" prog_5_method_13_code 8 (some .int) outI (cP_hireNext) := by
  refine ak (ok_iload (by decide +kernel)) ?_
  refine ak (ok_if_ge (off := 7) (by decide) (by decide +kernel)) ?_
  refine ak (ok_iconst (n := 0) (by decide) (by decide +kernel)) ?_
  refine ak (ok_goto (off := 13) (by decide) (by decide +kernel)) ?_
  refine ak (ok_aload_n (k := 1) rfl (by decide +kernel)) ?_
  refine ak (ok_get (k := 5) ck9 kd1 (by decide) (fun _ _ _ => rfl) (vf_1_5 hsd) tw397 (by decide +kernel)) ?_
  refine ak (ok_iload (by decide +kernel)) ?_
  refine ak (ok_aald (t0 := 3) (C := RX1) kd5 (by decide) rfl (vr_5 hsd) (by decide +kernel)) ?_
  refine ak (ok_get (k := 6) ck1 kd6 (by decide) (fun _ _ _ => rfl) (fun _ _ _ _ _ => trivial) tw217 (by decide +kernel)) ?_
  refine ak (ok_istore (by decide) (by decide +kernel)) ?_
  refine ak (ok_iload (by decide +kernel)) ?_
  refine ak (ok_aload_n (k := 2) rfl (by decide +kernel)) ?_
  refine ak (ok_iconst (n := 3) (by decide) (by decide +kernel)) ?_
  refine ak (ok_iload_n (k := 3) rfl (by decide +kernel)) ?_
  refine ak (ok_imul (by decide +kernel)) ?_
  refine ak (ok_iconst (n := 2) (by decide) (by decide +kernel)) ?_
  refine ak (ok_iadd (by decide +kernel)) ?_
  refine ak (ok_iald kd20 (by decide) (by decide +kernel)) ?_
  refine ak (ok_imul (by decide +kernel)) ?_
  refine ak (ok_istore (by decide) (by decide +kernel)) ?_
  refine ak (ok_iload (by decide +kernel)) ?_
  refine ak (ok_if_lt (off := 13) (by decide) (by decide +kernel)) ?_
  refine ak (ok_iload (by decide +kernel)) ?_
  refine ak (ok_iload (by decide +kernel)) ?_
  refine ak (ok_icmp_eq (off := 6) (by decide) (by decide +kernel)) ?_
  refine ak (ok_iinc (n := 10) (by decide) (by decide) (by decide +kernel)) ?_
  refine ak (ok_iload (by decide +kernel)) ?_
  refine ak (ok_aload_n (k := 2) rfl (by decide +kernel)) ?_
  refine ak (ok_iconst (n := 3) (by decide) (by decide +kernel)) ?_
  refine ak (ok_iload_n (k := 3) rfl (by decide +kernel)) ?_
  refine ak (ok_imul (by decide +kernel)) ?_
  refine ak (ok_iald kd20 (by decide) (by decide +kernel)) ?_
  refine ak (ok_icmp_ge (off := 15) (by decide) (by decide +kernel)) ?_
  refine ak (ok_iload (by decide +kernel)) ?_
  refine ak (ok_aload_n (k := 2) rfl (by decide +kernel)) ?_
  refine ak (ok_iconst (n := 3) (by decide) (by decide +kernel)) ?_
  refine ak (ok_iload_n (k := 3) rfl (by decide +kernel)) ?_
  refine ak (ok_imul (by decide +kernel)) ?_
  refine ak (ok_iconst (n := 1) (by decide) (by decide +kernel)) ?_
  refine ak (ok_iadd (by decide +kernel)) ?_
  refine ak (ok_iald kd20 (by decide) (by decide +kernel)) ?_
  refine ak (ok_iadd (by decide +kernel)) ?_
  refine ak (ok_istore (by decide) (by decide +kernel)) ?_
  refine ak (ok_iload (by decide +kernel)) ?_
  refine ak (ok_aload_n (k := 0) rfl (by decide +kernel)) ?_
  refine ak (ok_get (k := 1) ck3 kd23 (by decide) (fun _ _ _ => rfl) (vf_23_1 hsd) tw516 (by decide +kernel)) ?_
  refine ak (ok_iload_n (k := 3) rfl (by decide +kernel)) ?_
  refine ak (ok_iconst (n := 1) (by decide) (by decide +kernel)) ?_
  refine ak (ok_iadd (by decide +kernel)) ?_
  refine ak (ok_iload (by decide +kernel)) ?_
  refine ak (ok_invS (kP_hirePlace hsd l) iP_hirePlace tw1046 (by decide) tw1045 (by decide +kernel)) ?_
  refine ak (ok_iald kd25 (by decide) (by decide +kernel)) ?_
  refine ak (ok_iadd (by decide +kernel)) ?_
  refine ak (ok_ireturn rfl (by decide +kernel)) ?_
  exact trivial
set_option maxRecDepth 1000000 in
theorem eP_hireNext_48 (i2 : Nat) (x3 : Int32) (x5 : Int32) (x6 : Int32) (x7 : Int32) (M : Mem) (u1 u4 : AV) : run (cP_hireNext) (fun _ _ _ _ => none) rtI 400 (seek (cP_hireNext) 48) [aR (23, 0, 0), u1, aR (20, 0, i2), aI x3, u4, aI x5, aI x6, aI x7] [] M = mP_hireNext_48b i2 x3 x5 x6 x7 M := id rfl
theorem lP_hireNext_48 {E : EV} {l : Launch} {p : Program} {e : Env} {s : State} {m : MethodId} {args : Array Value} {below : List Frame} {meth : Method} {c : Code} (A : AllOK E l 2 "FreeLances$Plans" prog_5_method_13_code 8 (some .int) outI (cP_hireNext)) (C : Cx E p s m args meth c "FreeLances$Plans" prog_5_method_13_code 8 (some .int)) : ∀ (i2 : Nat) (x3 : Int32) (x5 : Int32) (x6 : Int32) (x7 : Int32) (M : Mem) (res : (Int32 × Mem)), mP_hireNext_48 i2 x3 x5 x6 x7 M = some res → ∀ (u1 u4 : AV), Wm E p l e 2 s m args below meth c 8 48 [aR (23, 0, 0), u1, aR (20, 0, i2), aI x3, u4, aI x5, aI x6, aI x7] [] M (outI res).1 (outI res).2 := by
  intro i2 x3 x5 x6 x7 M res h u1 u4
  refine run_at C A rfl hrtI (n := 400) ((eP_hireNext_48 i2 x3 x5 x6 x7 M u1 u4).trans h) ?_
  intro t als st M hk; cases hk
def KP_hireNext (j48 : Nat → Int32 → Int32 → Int32 → Int32 → Mem → Option (Int32 × Mem)) : Jm (Int32 × Mem) := fun t als st M =>
  if t = 48 then (match als, st with
  | [.inr (.inr (.inl (al0, bl0, cl0))), _, .inr (.inr (.inl (al2, bl2, i2))), .inl x3, _, .inl x5, .inl x6, .inl x7], [] => if al0 = 23 ∧ bl0 = 0 ∧ cl0 = 0 ∧ al2 = 20 ∧ bl2 = 0 then j48 i2 x3 x5 x6 x7 M else none
  | _, _ => none) else
  none
set_option maxRecDepth 1000000 in
theorem eP_hireNext (j48 : Nat → Int32 → Int32 → Int32 → Int32 → Mem → Option (Int32 × Mem)) (w1 : Nat) (i2 : Nat) (x3 : Int32) (x4 : Int32) (x5 : Int32) (M : Mem) : run (cP_hireNext) (KP_hireNext j48) rtI 400 (seek (cP_hireNext) 0) [aR (23, 0, 0), aR (1, w1, 0), aR (20, 0, i2), aI x3, aI x4, aI x5, aU, aU] [] M = mP_hireNextb j48 w1 i2 x3 x4 x5 M := id rfl
theorem lP_hireNext {E : EV} {l : Launch} {p : Program} {e : Env} {s : State} {m : MethodId} {args : Array Value} {below : List Frame} {meth : Method} {c : Code} (A : AllOK E l 2 "FreeLances$Plans" prog_5_method_13_code 8 (some .int) outI (cP_hireNext)) (C : Cx E p s m args meth c "FreeLances$Plans" prog_5_method_13_code 8 (some .int)) : ∀ (w1 : Nat) (i2 : Nat) (x3 : Int32) (x4 : Int32) (x5 : Int32) (M : Mem) (res : (Int32 × Mem)), mP_hireNext w1 i2 x3 x4 x5 M = some res → Wm E p l e 2 s m args below meth c 8 0 [aR (23, 0, 0), aR (1, w1, 0), aR (20, 0, i2), aI x3, aI x4, aI x5, aU, aU] [] M (outI res).1 (outI res).2 := by
  intro w1 i2 x3 x4 x5 M res h
  refine run_at C A rfl hrtI (n := 400) ((eP_hireNext mP_hireNext_48 w1 i2 x3 x4 x5 M).trans h) ?_
  intro t als st M hk
  unfold KP_hireNext at hk
  split at hk
  · rename_i ht
    subst ht
    split at hk
    · split at hk
      · rename_i hc
        obtain ⟨rfl, rfl, rfl, rfl, rfl⟩ := hc
        exact lP_hireNext_48 A C _ _ _ _ _ _ _ hk _ _
      · cases hk
    · cases hk
  cases hk
def dP_hireNext {β : Type} : Den β := fun as M k => match as with
  | [.inr (.inr (.inl (al0, bl0, cl0))), .inr (.inr (.inl (al1, w1, cl1))), .inr (.inr (.inl (al2, bl2, i2))), .inl x3, .inl x4, .inl x5] => if al0 = 23 ∧ bl0 = 0 ∧ cl0 = 0 ∧ al1 = 1 ∧ cl1 = 0 ∧ al2 = 20 ∧ bl2 = 0 then (mP_hireNext w1 i2 x3 x4 x5 M).bind fun q => k (aI q.1) q.2 else none
  | _ => none
theorem wP_hireNext {E : EV} (hsd : E.2.2.2 = 0) (l : Launch) (w1 : Nat) (i2 : Nat) (x3 : Int32) (x4 : Int32) (x5 : Int32) (M : Mem) (q : (Int32 × Mem)) (hq : mP_hireNext w1 i2 x3 x4 x5 M = some q) : Con E l 2 yP_hireNext prog_5_method_13_code 8 (some .int) [aR (23, 0, 0), aR (1, w1, 0), aR (20, 0, i2), aI x3, aI x4, aI x5] M (outI q).1 (outI q).2 := by
  refine con_of iP_hireNext (Nat.le_of_ble_eq_true rfl) ?_
  intro p e s m args below meth c C
  exact lP_hireNext (oP_hireNext hsd l) C w1 i2 x3 x4 x5 M _ hq
theorem kP_hireNext {E : EV} (hsd : E.2.2.2 = 0) (l : Launch) {β : Type} : DenOK E l 2 yP_hireNext prog_5_method_13_code 8 (some .int) true (dP_hireNext (β := β)) := by
  intro as M k res h
  unfold dP_hireNext at h
  split at h
  ·
    split at h
    · rename_i hc
      obtain ⟨rfl, rfl, rfl, rfl, rfl, rfl, rfl⟩ := hc
      obtain ⟨q, hq, hk⟩ := Option.bind_eq_some_iff.mp h
      exact ⟨aI q.1, q.2, hk, rfl, wP_hireNext hsd l _ _ _ _ _ M q hq⟩
    · cases h
  · cases h
theorem qP_hireNext {β : Type} : RecOK 23 (dP_hireNext (β := β)) := by
  intro as M k res h
  unfold dP_hireNext at h
  split at h
  ·
    split at h
    · rename_i hc
      obtain ⟨rfl, rfl, rfl, rfl, rfl, rfl, rfl⟩ := hc
      exact ⟨_, _, _, rfl⟩
    · cases h
  · cases h
/-! ===== FreeLances$Plans.hireChoice(LFreeLances$World;[III)I ===== -/
abbrev yP_hireChoice : MethodName := ⟨"FreeLances$Plans", "hireChoice", "(LFreeLances$World;[III)I"⟩
theorem iP_hireChoice : MI yP_hireChoice prog_5_method_12_code 9 (some .int) 4 := ⟨tw1051, tw107, ⟨by decide, by decide⟩, by decide +kernel, by decide, by decide⟩
def cP_hireChoice : List (Ent (Int32 × Mem)) := [(false, 0, 1, sC (-1)),
  (false, 1, 2, sStI 5),
  (false, 3, 1, sLdA 0),
  (false, 4, 1, sLdA 1),
  (false, 5, 1, sLdA 2),
  (false, 6, 1, sLdI 3),
  (false, 7, 2, sLdI 4),
  (false, 9, 1, sC (-1)),
  (false, 10, 3, sInv 6 true dP_hireNext),
  (false, 13, 2, sStI 6),
  (false, 15, 1, sC 0),
  (false, 16, 2, sStI 7),
  (true, 18, 2, sLdI 7),
  (false, 20, 1, sLdA 1),
  (false, 21, 3, sGet 1 (fun w i M => aI (M 1 w i 6))),
  (false, 24, 3, sCmpGe 61),
  (false, 27, 1, sLdA 0),
  (false, 28, 1, sLdA 1),
  (false, 29, 1, sLdA 2),
  (false, 30, 1, sLdI 3),
  (false, 31, 2, sLdI 4),
  (false, 33, 2, sLdI 7),
  (false, 35, 3, sInv 6 true dP_hireNext),
  (false, 38, 2, sStI 8),
  (false, 40, 2, sLdI 8),
  (false, 42, 2, sLdI 6),
  (false, 44, 3, sCmpGe 55),
  (false, 47, 2, sLdI 8),
  (false, 49, 2, sStI 6),
  (false, 51, 2, sLdI 7),
  (false, 53, 2, sStI 5),
  (false, 55, 3, sInc 7 1),
  (false, 58, 3, sGoto 18),
  (false, 61, 2, sLdI 5),
  (false, 63, 1, sRetI)]
theorem oP_hireChoice {E : EV} (hsd : E.2.2.2 = 0) (l : Launch) : AllOK E l 3 "FreeLances$Plans" prog_5_method_12_code 9 (some .int) outI (cP_hireChoice) := by
  refine ak (ok_iconst (n := (-1)) (by decide) (by decide +kernel)) ?_
  refine ak (ok_istore (by decide) (by decide +kernel)) ?_
  refine ak (ok_aload_n (k := 0) rfl (by decide +kernel)) ?_
  refine ak (ok_aload_n (k := 1) rfl (by decide +kernel)) ?_
  refine ak (ok_aload_n (k := 2) rfl (by decide +kernel)) ?_
  refine ak (ok_iload_n (k := 3) rfl (by decide +kernel)) ?_
  refine ak (ok_iload (by decide +kernel)) ?_
  refine ak (ok_iconst (n := (-1)) (by decide) (by decide +kernel)) ?_
  refine ak (ok_invV (r := 23) (kP_hireNext hsd l) qP_hireNext ck3 kd23 iP_hireNext tw1054 tw27 (by decide) tw1052 (by decide +kernel)) ?_
  refine ak (ok_istore (by decide) (by decide +kernel)) ?_
  refine ak (ok_iconst (n := 0) (by decide) (by decide +kernel)) ?_
  refine ak (ok_istore (by decide) (by decide +kernel)) ?_
  refine ak (ok_iload (by decide +kernel)) ?_
  refine ak (ok_aload_n (k := 1) rfl (by decide +kernel)) ?_
  refine ak (ok_get (k := 6) ck9 kd1 (by decide) (fun _ _ _ => rfl) (fun _ _ _ _ _ => trivial) tw400 (by decide +kernel)) ?_
  refine ak (ok_icmp_ge (off := 37) (by decide) (by decide +kernel)) ?_
  refine ak (ok_aload_n (k := 0) rfl (by decide +kernel)) ?_
  refine ak (ok_aload_n (k := 1) rfl (by decide +kernel)) ?_
  refine ak (ok_aload_n (k := 2) rfl (by decide +kernel)) ?_
  refine ak (ok_iload_n (k := 3) rfl (by decide +kernel)) ?_
  refine ak (ok_iload (by decide +kernel)) ?_
  refine ak (ok_iload (by decide +kernel)) ?_
  refine ak (ok_invV (r := 23) (kP_hireNext hsd l) qP_hireNext ck3 kd23 iP_hireNext tw1054 tw27 (by decide) tw1052 (by decide +kernel)) ?_
  refine ak (ok_istore (by decide) (by decide +kernel)) ?_
  refine ak (ok_iload (by decide +kernel)) ?_
  refine ak (ok_iload (by decide +kernel)) ?_
  refine ak (ok_icmp_ge (off := 11) (by decide) (by decide +kernel)) ?_
  refine ak (ok_iload (by decide +kernel)) ?_
  refine ak (ok_istore (by decide) (by decide +kernel)) ?_
  refine ak (ok_iload (by decide +kernel)) ?_
  refine ak (ok_istore (by decide) (by decide +kernel)) ?_
  refine ak (ok_iinc (n := 1) (by decide) (by decide) (by decide +kernel)) ?_
  refine ak (ok_goto (off := (-40)) (by decide) (by decide +kernel)) ?_
  refine ak (ok_iload (by decide +kernel)) ?_
  refine ak (ok_ireturn rfl (by decide +kernel)) ?_
  exact trivial
def KP_hireChoice_18 (j18 : Nat → Nat → Int32 → Int32 → Int32 → Int32 → Int32 → Mem → Option (Int32 × Mem)) : Jm (Int32 × Mem) := fun t als st M =>
  if t = 18 then (match als, st with
  | [.inr (.inr (.inl (al0, bl0, cl0))), .inr (.inr (.inl (al1, w1, cl1))), .inr (.inr (.inl (al2, bl2, i2))), .inl x3, .inl x4, .inl x5, .inl x6, .inl x7, _], [] => if al0 = 23 ∧ bl0 = 0 ∧ cl0 = 0 ∧ al1 = 1 ∧ cl1 = 0 ∧ al2 = 20 ∧ bl2 = 0 then j18 w1 i2 x3 x4 x5 x6 x7 M else none
  | _, _ => none) else
  none
set_option maxRecDepth 1000000 in
theorem eP_hireChoice_18 (j18 : Nat → Nat → Int32 → Int32 → Int32 → Int32 → Int32 → Mem → Option (Int32 × Mem)) (w1 : Nat) (i2 : Nat) (x3 : Int32) (x4 : Int32) (x5 : Int32) (x6 : Int32) (x7 : Int32) (M : Mem) (u8 : AV) : run (cP_hireChoice) (KP_hireChoice_18 j18) rtI 400 (seek (cP_hireChoice) 18) [aR (23, 0, 0), aR (1, w1, 0), aR (20, 0, i2), aI x3, aI x4, aI x5, aI x6, aI x7, u8] [] M = mP_hireChoice_18b j18 w1 i2 x3 x4 x5 x6 x7 M := id rfl
theorem lP_hireChoice_18 {E : EV} {l : Launch} {p : Program} {e : Env} {s : State} {m : MethodId} {args : Array Value} {below : List Frame} {meth : Method} {c : Code} (A : AllOK E l 3 "FreeLances$Plans" prog_5_method_12_code 9 (some .int) outI (cP_hireChoice)) (C : Cx E p s m args meth c "FreeLances$Plans" prog_5_method_12_code 9 (some .int)) : ∀ (n : Nat), ∀ (w1 : Nat) (i2 : Nat) (x3 : Int32) (x4 : Int32) (x5 : Int32) (x6 : Int32) (x7 : Int32) (M : Mem) (res : (Int32 × Mem)), mP_hireChoice_18 n w1 i2 x3 x4 x5 x6 x7 M = some res → ∀ (u8 : AV), Wm E p l e 3 s m args below meth c 9 18 [aR (23, 0, 0), aR (1, w1, 0), aR (20, 0, i2), aI x3, aI x4, aI x5, aI x6, aI x7, u8] [] M (outI res).1 (outI res).2 := by
  intro n
  induction n with
  | zero => intro _ _ _ _ _ _ _ M res h; cases h
  | succ n ih =>
    intro w1 i2 x3 x4 x5 x6 x7 M res h u8
    refine run_at C A rfl hrtI (n := 400) ((eP_hireChoice_18 (mP_hireChoice_18 n) w1 i2 x3 x4 x5 x6 x7 M u8).trans h) ?_
    intro t als st M hk
    unfold KP_hireChoice_18 at hk
    split at hk
    · rename_i ht
      subst ht
      split at hk
      · split at hk
        · rename_i hc
          obtain ⟨rfl, rfl, rfl, rfl, rfl, rfl, rfl⟩ := hc
          exact ih _ _ _ _ _ _ _ _ _ hk _
        · cases hk
      · cases hk
    cases hk
def KP_hireChoice (j18 : Nat → Nat → Int32 → Int32 → Int32 → Int32 → Int32 → Mem → Option (Int32 × Mem)) : Jm (Int32 × Mem) := fun t als st M =>
  if t = 18 then (match als, st with
  | [.inr (.inr (.inl (al0, bl0, cl0))), .inr (.inr (.inl (al1, w1, cl1))), .inr (.inr (.inl (al2, bl2, i2))), .inl x3, .inl x4, .inl x5, .inl x6, .inl x7, _], [] => if al0 = 23 ∧ bl0 = 0 ∧ cl0 = 0 ∧ al1 = 1 ∧ cl1 = 0 ∧ al2 = 20 ∧ bl2 = 0 then j18 w1 i2 x3 x4 x5 x6 x7 M else none
  | _, _ => none) else
  none
set_option maxRecDepth 1000000 in
theorem eP_hireChoice (j18 : Nat → Nat → Int32 → Int32 → Int32 → Int32 → Int32 → Mem → Option (Int32 × Mem)) (w1 : Nat) (i2 : Nat) (x3 : Int32) (x4 : Int32) (M : Mem) : run (cP_hireChoice) (KP_hireChoice j18) rtI 400 (seek (cP_hireChoice) 0) [aR (23, 0, 0), aR (1, w1, 0), aR (20, 0, i2), aI x3, aI x4, aU, aU, aU, aU] [] M = mP_hireChoiceb j18 w1 i2 x3 x4 M := id rfl
theorem lP_hireChoice {E : EV} {l : Launch} {p : Program} {e : Env} {s : State} {m : MethodId} {args : Array Value} {below : List Frame} {meth : Method} {c : Code} (A : AllOK E l 3 "FreeLances$Plans" prog_5_method_12_code 9 (some .int) outI (cP_hireChoice)) (C : Cx E p s m args meth c "FreeLances$Plans" prog_5_method_12_code 9 (some .int)) : ∀ (w1 : Nat) (i2 : Nat) (x3 : Int32) (x4 : Int32) (M : Mem) (res : (Int32 × Mem)), mP_hireChoice w1 i2 x3 x4 M = some res → Wm E p l e 3 s m args below meth c 9 0 [aR (23, 0, 0), aR (1, w1, 0), aR (20, 0, i2), aI x3, aI x4, aU, aU, aU, aU] [] M (outI res).1 (outI res).2 := by
  intro w1 i2 x3 x4 M res h
  refine run_at C A rfl hrtI (n := 400) ((eP_hireChoice (mP_hireChoice_18 fuel) w1 i2 x3 x4 M).trans h) ?_
  intro t als st M hk
  unfold KP_hireChoice at hk
  split at hk
  · rename_i ht
    subst ht
    split at hk
    · split at hk
      · rename_i hc
        obtain ⟨rfl, rfl, rfl, rfl, rfl, rfl, rfl⟩ := hc
        exact lP_hireChoice_18 A C _ _ _ _ _ _ _ _ _ _ hk _
      · cases hk
    · cases hk
  cases hk
def dP_hireChoice {β : Type} : Den β := fun as M k => match as with
  | [.inr (.inr (.inl (al0, bl0, cl0))), .inr (.inr (.inl (al1, w1, cl1))), .inr (.inr (.inl (al2, bl2, i2))), .inl x3, .inl x4] => if al0 = 23 ∧ bl0 = 0 ∧ cl0 = 0 ∧ al1 = 1 ∧ cl1 = 0 ∧ al2 = 20 ∧ bl2 = 0 then (mP_hireChoice w1 i2 x3 x4 M).bind fun q => k (aI q.1) q.2 else none
  | _ => none
theorem wP_hireChoice {E : EV} (hsd : E.2.2.2 = 0) (l : Launch) (w1 : Nat) (i2 : Nat) (x3 : Int32) (x4 : Int32) (M : Mem) (q : (Int32 × Mem)) (hq : mP_hireChoice w1 i2 x3 x4 M = some q) : Con E l 3 yP_hireChoice prog_5_method_12_code 9 (some .int) [aR (23, 0, 0), aR (1, w1, 0), aR (20, 0, i2), aI x3, aI x4] M (outI q).1 (outI q).2 := by
  refine con_of iP_hireChoice (Nat.le_of_ble_eq_true rfl) ?_
  intro p e s m args below meth c C
  exact lP_hireChoice (oP_hireChoice hsd l) C w1 i2 x3 x4 M _ hq
theorem kP_hireChoice {E : EV} (hsd : E.2.2.2 = 0) (l : Launch) {β : Type} : DenOK E l 3 yP_hireChoice prog_5_method_12_code 9 (some .int) true (dP_hireChoice (β := β)) := by
  intro as M k res h
  unfold dP_hireChoice at h
  split at h
  ·
    split at h
    · rename_i hc
      obtain ⟨rfl, rfl, rfl, rfl, rfl, rfl, rfl⟩ := hc
      obtain ⟨q, hq, hk⟩ := Option.bind_eq_some_iff.mp h
      exact ⟨aI q.1, q.2, hk, rfl, wP_hireChoice hsd l _ _ _ _ M q hq⟩
    · cases h
  · cases h
theorem qP_hireChoice {β : Type} : RecOK 23 (dP_hireChoice (β := β)) := by
  intro as M k res h
  unfold dP_hireChoice at h
  split at h
  ·
    split at h
    · rename_i hc
      obtain ⟨rfl, rfl, rfl, rfl, rfl, rfl, rfl⟩ := hc
      exact ⟨_, _, _, rfl⟩
    · cases h
  · cases h
/-! ===== FreeLances$Plans.hireCost(LFreeLances$World;[II)I ===== -/
abbrev yP_hireCost : MethodName := ⟨"FreeLances$Plans", "hireCost", "(LFreeLances$World;[II)I"⟩
theorem iP_hireCost : MI yP_hireCost prog_5_method_9_code 7 (some .int) 3 := ⟨tw1044, tw107, ⟨by decide, by decide⟩, by decide +kernel, by decide, by decide⟩
def cP_hireCost : List (Ent (Int32 × Mem)) := [(false, 0, 1, sC (-1)),
  (false, 1, 2, sStI 4),
  (true, 3, 2, sLdI 4),
  (false, 5, 1, sLdA 1),
  (false, 6, 3, sGet 1 (fun w i M => aI (M 1 w i 6))),
  (false, 9, 3, sCmpGe 30),
  (false, 12, 1, sLdA 0),
  (false, 13, 3, sGet 23 (fun w i M => aR (25, 0, 0))),
  (false, 16, 1, sLdI 3),
  (false, 17, 2, sLdI 4),
  (false, 19, 3, sInv 2 true dP_hirePlace),
  (false, 22, 1, sC 0),
  (false, 23, 1, sIast 25 36),
  (false, 24, 3, sInc 4 1),
  (false, 27, 3, sGoto 3),
  (false, 30, 1, sLdI 3),
  (false, 31, 1, sC 1),
  (false, 32, 1, sBin (fun x y => x - y)),
  (false, 33, 2, sStI 4),
  (true, 35, 2, sLdI 4),
  (false, 37, 3, sIfLt 100),
  (false, 40, 1, sC (-1)),
  (false, 41, 2, sStI 5),
  (true, 43, 2, sLdI 5),
  (false, 45, 1, sLdA 1),
  (false, 46, 3, sGet 1 (fun w i M => aI (M 1 w i 6))),
  (false, 49, 3, sCmpGe 94),
  (false, 52, 1, sLdA 0),
  (false, 53, 1, sLdA 1),
  (false, 54, 1, sLdA 2),
  (false, 55, 2, sLdI 4),
  (false, 57, 2, sLdI 5),
  (false, 59, 3, sInv 5 true dP_hireChoice),
  (false, 62, 2, sStI 6),
  (false, 64, 1, sLdA 0),
  (false, 65, 3, sGet 23 (fun w i M => aR (25, 0, 0))),
  (false, 68, 2, sLdI 4),
  (false, 70, 2, sLdI 5),
  (false, 72, 3, sInv 2 true dP_hirePlace),
  (false, 75, 1, sLdA 0),
  (false, 76, 1, sLdA 1),
  (false, 77, 1, sLdA 2),
  (false, 78, 2, sLdI 4),
  (false, 80, 2, sLdI 5),
  (false, 82, 2, sLdI 6),
  (false, 84, 3, sInv 6 true dP_hireNext),
  (false, 87, 1, sIast 25 36),
  (false, 88, 3, sInc 5 1),
  (false, 91, 3, sGoto 43),
  (false, 94, 3, sInc 4 (-1)),
  (false, 97, 3, sGoto 35),
  (false, 100, 1, sLdA 0),
  (false, 101, 3, sGet 23 (fun w i M => aR (25, 0, 0))),
  (false, 104, 1, sC 0),
  (false, 105, 1, sC (-1)),
  (false, 106, 3, sInv 2 true dP_hirePlace),
  (false, 109, 1, sIald 25 36),
  (false, 110, 1, sRetI)]
theorem oP_hireCost {E : EV} (hsd : E.2.2.2 = 0) (l : Launch) : AllOK E l 4 "FreeLances$Plans" prog_5_method_9_code 7 (some .int) outI (cP_hireCost) := by
  refine ak (ok_iconst (n := (-1)) (by decide) (by decide +kernel)) ?_
  refine ak (ok_istore (by decide) (by decide +kernel)) ?_
  refine ak (ok_iload (by decide +kernel)) ?_
  refine ak (ok_aload_n (k := 1) rfl (by decide +kernel)) ?_
  refine ak (ok_get (k := 6) ck9 kd1 (by decide) (fun _ _ _ => rfl) (fun _ _ _ _ _ => trivial) tw400 (by decide +kernel)) ?_
  refine ak (ok_icmp_ge (off := 21) (by decide) (by decide +kernel)) ?_
  refine ak (ok_aload_n (k := 0) rfl (by decide +kernel)) ?_
  refine ak (ok_get (k := 1) ck3 kd23 (by decide) (fun _ _ _ => rfl) (vf_23_1 hsd) tw516 (by decide +kernel)) ?_
  refine ak (ok_iload_n (k := 3) rfl (by decide +kernel)) ?_
  refine ak (ok_iload (by decide +kernel)) ?_
  refine ak (ok_invS (kP_hirePlace hsd l) iP_hirePlace tw1046 (by decide) tw1045 (by decide +kernel)) ?_
  refine ak (ok_iconst (n := 0) (by decide) (by decide +kernel)) ?_
  refine ak (ok_iast kd25 (by decide) (by decide) (by decide +kernel)) ?_
  refine ak (ok_iinc (n := 1) (by decide) (by decide) (by decide +kernel)) ?_
  refine ak (ok_goto (off := (-24)) (by decide) (by decide +kernel)) ?_
  refine ak (ok_iload_n (k := 3) rfl (by decide +kernel)) ?_
  refine ak (ok_iconst (n := 1) (by decide) (by decide +kernel)) ?_
  refine ak (ok_isub (by decide +kernel)) ?_
  refine ak (ok_istore (by decide) (by decide +kernel)) ?_
  refine ak (ok_iload (by decide +kernel)) ?_
  refine ak (ok_if_lt (off := 63) (by decide) (by decide +kernel)) ?_
  refine ak (ok_iconst (n := (-1)) (by decide) (by decide +kernel)) ?_
  refine ak (ok_istore (by decide) (by decide +kernel)) ?_
  refine ak (ok_iload (by decide +kernel)) ?_
  refine ak (ok_aload_n (k := 1) rfl (by decide +kernel)) ?_
  refine ak (ok_get (k := 6) ck9 kd1 (by decide) (fun _ _ _ => rfl) (fun _ _ _ _ _ => trivial) tw400 (by decide +kernel)) ?_
  refine ak (ok_icmp_ge (off := 45) (by decide) (by decide +kernel)) ?_
  refine ak (ok_aload_n (k := 0) rfl (by decide +kernel)) ?_
  refine ak (ok_aload_n (k := 1) rfl (by decide +kernel)) ?_
  refine ak (ok_aload_n (k := 2) rfl (by decide +kernel)) ?_
  refine ak (ok_iload (by decide +kernel)) ?_
  refine ak (ok_iload (by decide +kernel)) ?_
  refine ak (ok_invV (r := 23) (kP_hireChoice hsd l) qP_hireChoice ck3 kd23 iP_hireChoice tw1050 tw26 (by decide) tw1048 (by decide +kernel)) ?_
  refine ak (ok_istore (by decide) (by decide +kernel)) ?_
  refine ak (ok_aload_n (k := 0) rfl (by decide +kernel)) ?_
  refine ak (ok_get (k := 1) ck3 kd23 (by decide) (fun _ _ _ => rfl) (vf_23_1 hsd) tw516 (by decide +kernel)) ?_
  refine ak (ok_iload (by decide +kernel)) ?_
  refine ak (ok_iload (by decide +kernel)) ?_
  refine ak (ok_invS (kP_hirePlace hsd l) iP_hirePlace tw1046 (by decide) tw1045 (by decide +kernel)) ?_
  refine ak (ok_aload_n (k := 0) rfl (by decide +kernel)) ?_
  refine ak (ok_aload_n (k := 1) rfl (by decide +kernel)) ?_
  refine ak (ok_aload_n (k := 2) rfl (by decide +kernel)) ?_
  refine ak (ok_iload (by decide +kernel)) ?_
  refine ak (ok_iload (by decide +kernel)) ?_
  refine ak (ok_iload (by decide +kernel)) ?_
  refine ak (ok_invV (r := 23) (kP_hireNext hsd l) qP_hireNext ck3 kd23 iP_hireNext tw1054 tw27 (by decide) tw1052 (by decide +kernel)) ?_
  refine ak (ok_iast kd25 (by decide) (by decide) (by decide +kernel)) ?_
  refine ak (ok_iinc (n := 1) (by decide) (by decide) (by decide +kernel)) ?_
  refine ak (ok_goto (off := (-48)) (by decide) (by decide +kernel)) ?_
  refine ak (ok_iinc (n := (-1)) (by decide) (by decide) (by decide +kernel)) ?_
  refine ak (ok_goto (off := (-62)) (by decide) (by decide +kernel)) ?_
  refine ak (ok_aload_n (k := 0) rfl (by decide +kernel)) ?_
  refine ak (ok_get (k := 1) ck3 kd23 (by decide) (fun _ _ _ => rfl) (vf_23_1 hsd) tw516 (by decide +kernel)) ?_
  refine ak (ok_iconst (n := 0) (by decide) (by decide +kernel)) ?_
  refine ak (ok_iconst (n := (-1)) (by decide) (by decide +kernel)) ?_
  refine ak (ok_invS (kP_hirePlace hsd l) iP_hirePlace tw1046 (by decide) tw1045 (by decide +kernel)) ?_
  refine ak (ok_iald kd25 (by decide) (by decide +kernel)) ?_
  refine ak (ok_ireturn rfl (by decide +kernel)) ?_
  exact trivial
def KP_hireCost_43 (j35 : Nat → Nat → Int32 → Mem → Option (Int32 × Mem)) (j43 : Nat → Nat → Int32 → Int32 → Mem → Option (Int32 × Mem)) : Jm (Int32 × Mem) := fun t als st M =>
  if t = 35 then (match als, st with
  | [.inr (.inr (.inl (al0, bl0, cl0))), .inr (.inr (.inl (al1, w1, cl1))), .inr (.inr (.inl (al2, bl2, i2))), _, .inl x4, _, _], [] => if al0 = 23 ∧ bl0 = 0 ∧ cl0 = 0 ∧ al1 = 1 ∧ cl1 = 0 ∧ al2 = 20 ∧ bl2 = 0 then j35 w1 i2 x4 M else none
  | _, _ => none) else
  if t = 43 then (match als, st with
  | [.inr (.inr (.inl (al0, bl0, cl0))), .inr (.inr (.inl (al1, w1, cl1))), .inr (.inr (.inl (al2, bl2, i2))), _, .inl x4, .inl x5, _], [] => if al0 = 23 ∧ bl0 = 0 ∧ cl0 = 0 ∧ al1 = 1 ∧ cl1 = 0 ∧ al2 = 20 ∧ bl2 = 0 then j43 w1 i2 x4 x5 M else none
  | _, _ => none) else
  none
set_option maxRecDepth 1000000 in
theorem eP_hireCost_43 (j35 : Nat → Nat → Int32 → Mem → Option (Int32 × Mem)) (j43 : Nat → Nat → Int32 → Int32 → Mem → Option (Int32 × Mem)) (w1 : Nat) (i2 : Nat) (x4 : Int32) (x5 : Int32) (M : Mem) (u3 u6 : AV) : run (cP_hireCost) (KP_hireCost_43 j35 j43) rtI 400 (seek (cP_hireCost) 43) [aR (23, 0, 0), aR (1, w1, 0), aR (20, 0, i2), u3, aI x4, aI x5, u6] [] M = mP_hireCost_43b j35 j43 w1 i2 x4 x5 M := id rfl
theorem lP_hireCost_43 {E : EV} {l : Launch} {p : Program} {e : Env} {s : State} {m : MethodId} {args : Array Value} {below : List Frame} {meth : Method} {c : Code} (A : AllOK E l 4 "FreeLances$Plans" prog_5_method_9_code 7 (some .int) outI (cP_hireCost)) (C : Cx E p s m args meth c "FreeLances$Plans" prog_5_method_9_code 7 (some .int)) {r35 : Nat → Nat → Int32 → Mem → Option (Int32 × Mem)} (H35 : ∀ (w1 : Nat) (i2 : Nat) (x4 : Int32) (M : Mem) (res : (Int32 × Mem)), r35 w1 i2 x4 M = some res → ∀ (u3 u5 u6 : AV), Wm E p l e 4 s m args below meth c 7 35 [aR (23, 0, 0), aR (1, w1, 0), aR (20, 0, i2), u3, aI x4, u5, u6] [] M (outI res).1 (outI res).2) : ∀ (n : Nat), ∀ (w1 : Nat) (i2 : Nat) (x4 : Int32) (x5 : Int32) (M : Mem) (res : (Int32 × Mem)), mP_hireCost_43 r35 n w1 i2 x4 x5 M = some res → ∀ (u3 u6 : AV), Wm E p l e 4 s m args below meth c 7 43 [aR (23, 0, 0), aR (1, w1, 0), aR (20, 0, i2), u3, aI x4, aI x5, u6] [] M (outI res).1 (outI res).2 := by
  intro n
  induction n with
  | zero => intro _ _ _ _ M res h; cases h
  | succ n ih =>
    intro w1 i2 x4 x5 M res h u3 u6
    refine run_at C A rfl hrtI (n := 400) ((eP_hireCost_43 r35 (mP_hireCost_43 r35 n) w1 i2 x4 x5 M u3 u6).trans h) ?_
    intro t als st M hk
    unfold KP_hireCost_43 at hk
    split at hk
    · rename_i ht
      subst ht
      split at hk
      · split at hk
        · rename_i hc
          obtain ⟨rfl, rfl, rfl, rfl, rfl, rfl, rfl⟩ := hc
          exact H35 _ _ _ _ _ hk _ _ _
        · cases hk
      · cases hk
    split at hk
    · rename_i ht
      subst ht
      split at hk
      · split at hk
        · rename_i hc
          obtain ⟨rfl, rfl, rfl, rfl, rfl, rfl, rfl⟩ := hc
          exact ih _ _ _ _ _ _ hk _ _
        · cases hk
      · cases hk
    cases hk
def KP_hireCost_35 (j43 : Nat → Nat → Int32 → Int32 → Mem → Option (Int32 × Mem)) : Jm (Int32 × Mem) := fun t als st M =>
  if t = 43 then (match als, st with
  | [.inr (.inr (.inl (al0, bl0, cl0))), .inr (.inr (.inl (al1, w1, cl1))), .inr (.inr (.inl (al2, bl2, i2))), _, .inl x4, .inl x5, _], [] => if al0 = 23 ∧ bl0 = 0 ∧ cl0 = 0 ∧ al1 = 1 ∧ cl1 = 0 ∧ al2 = 20 ∧ bl2 = 0 then j43 w1 i2 x4 x5 M else none
  | _, _ => none) else
  none
set_option maxRecDepth 1000000 in
theorem eP_hireCost_35 (j43 : Nat → Nat → Int32 → Int32 → Mem → Option (Int32 × Mem)) (w1 : Nat) (i2 : Nat) (x4 : Int32) (M : Mem) (u3 u5 u6 : AV) : run (cP_hireCost) (KP_hireCost_35 j43) rtI 400 (seek (cP_hireCost) 35) [aR (23, 0, 0), aR (1, w1, 0), aR (20, 0, i2), u3, aI x4, u5, u6] [] M = mP_hireCost_35b j43 w1 i2 x4 M := id rfl
theorem lP_hireCost_35 {E : EV} {l : Launch} {p : Program} {e : Env} {s : State} {m : MethodId} {args : Array Value} {below : List Frame} {meth : Method} {c : Code} (A : AllOK E l 4 "FreeLances$Plans" prog_5_method_9_code 7 (some .int) outI (cP_hireCost)) (C : Cx E p s m args meth c "FreeLances$Plans" prog_5_method_9_code 7 (some .int)) : ∀ (n : Nat), ∀ (w1 : Nat) (i2 : Nat) (x4 : Int32) (M : Mem) (res : (Int32 × Mem)), mP_hireCost_35 n w1 i2 x4 M = some res → ∀ (u3 u5 u6 : AV), Wm E p l e 4 s m args below meth c 7 35 [aR (23, 0, 0), aR (1, w1, 0), aR (20, 0, i2), u3, aI x4, u5, u6] [] M (outI res).1 (outI res).2 := by
  intro n
  induction n with
  | zero => intro _ _ _ M res h; cases h
  | succ n ih =>
    intro w1 i2 x4 M res h u3 u5 u6
    refine run_at C A rfl hrtI (n := 400) ((eP_hireCost_35 (mP_hireCost_43 (mP_hireCost_35 n) fuel) w1 i2 x4 M u3 u5 u6).trans h) ?_
    intro t als st M hk
    unfold KP_hireCost_35 at hk
    split at hk
    · rename_i ht
      subst ht
      split at hk
      · split at hk
        · rename_i hc
          obtain ⟨rfl, rfl, rfl, rfl, rfl, rfl, rfl⟩ := hc
          exact lP_hireCost_43 A C ih _ _ _ _ _ _ _ hk _ _
        · cases hk
      · cases hk
    cases hk
def KP_hireCost_3 (j3 : Nat → Nat → Int32 → Int32 → Mem → Option (Int32 × Mem)) (j35 : Nat → Nat → Int32 → Mem → Option (Int32 × Mem)) : Jm (Int32 × Mem) := fun t als st M =>
  if t = 3 then (match als, st with
  | [.inr (.inr (.inl (al0, bl0, cl0))), .inr (.inr (.inl (al1, w1, cl1))), .inr (.inr (.inl (al2, bl2, i2))), .inl x3, .inl x4, _, _], [] => if al0 = 23 ∧ bl0 = 0 ∧ cl0 = 0 ∧ al1 = 1 ∧ cl1 = 0 ∧ al2 = 20 ∧ bl2 = 0 then j3 w1 i2 x3 x4 M else none
  | _, _ => none) else
  if t = 35 then (match als, st with
  | [.inr (.inr (.inl (al0, bl0, cl0))), .inr (.inr (.inl (al1, w1, cl1))), .inr (.inr (.inl (al2, bl2, i2))), _, .inl x4, _, _], [] => if al0 = 23 ∧ bl0 = 0 ∧ cl0 = 0 ∧ al1 = 1 ∧ cl1 = 0 ∧ al2 = 20 ∧ bl2 = 0 then j35 w1 i2 x4 M else none
  | _, _ => none) else
  none
set_option maxRecDepth 1000000 in
theorem eP_hireCost_3 (j3 : Nat → Nat → Int32 → Int32 → Mem → Option (Int32 × Mem)) (j35 : Nat → Nat → Int32 → Mem → Option (Int32 × Mem)) (w1 : Nat) (i2 : Nat) (x3 : Int32) (x4 : Int32) (M : Mem) (u5 u6 : AV) : run (cP_hireCost) (KP_hireCost_3 j3 j35) rtI 400 (seek (cP_hireCost) 3) [aR (23, 0, 0), aR (1, w1, 0), aR (20, 0, i2), aI x3, aI x4, u5, u6] [] M = mP_hireCost_3b j3 j35 w1 i2 x3 x4 M := id rfl
theorem lP_hireCost_3 {E : EV} {l : Launch} {p : Program} {e : Env} {s : State} {m : MethodId} {args : Array Value} {below : List Frame} {meth : Method} {c : Code} (A : AllOK E l 4 "FreeLances$Plans" prog_5_method_9_code 7 (some .int) outI (cP_hireCost)) (C : Cx E p s m args meth c "FreeLances$Plans" prog_5_method_9_code 7 (some .int)) : ∀ (n : Nat), ∀ (w1 : Nat) (i2 : Nat) (x3 : Int32) (x4 : Int32) (M : Mem) (res : (Int32 × Mem)), mP_hireCost_3 n w1 i2 x3 x4 M = some res → ∀ (u5 u6 : AV), Wm E p l e 4 s m args below meth c 7 3 [aR (23, 0, 0), aR (1, w1, 0), aR (20, 0, i2), aI x3, aI x4, u5, u6] [] M (outI res).1 (outI res).2 := by
  intro n
  induction n with
  | zero => intro _ _ _ _ M res h; cases h
  | succ n ih =>
    intro w1 i2 x3 x4 M res h u5 u6
    refine run_at C A rfl hrtI (n := 400) ((eP_hireCost_3 (mP_hireCost_3 n) (mP_hireCost_35 fuel) w1 i2 x3 x4 M u5 u6).trans h) ?_
    intro t als st M hk
    unfold KP_hireCost_3 at hk
    split at hk
    · rename_i ht
      subst ht
      split at hk
      · split at hk
        · rename_i hc
          obtain ⟨rfl, rfl, rfl, rfl, rfl, rfl, rfl⟩ := hc
          exact ih _ _ _ _ _ _ hk _ _
        · cases hk
      · cases hk
    split at hk
    · rename_i ht
      subst ht
      split at hk
      · split at hk
        · rename_i hc
          obtain ⟨rfl, rfl, rfl, rfl, rfl, rfl, rfl⟩ := hc
          exact lP_hireCost_35 A C _ _ _ _ _ _ hk _ _ _
        · cases hk
      · cases hk
    cases hk
def KP_hireCost (j3 : Nat → Nat → Int32 → Int32 → Mem → Option (Int32 × Mem)) : Jm (Int32 × Mem) := fun t als st M =>
  if t = 3 then (match als, st with
  | [.inr (.inr (.inl (al0, bl0, cl0))), .inr (.inr (.inl (al1, w1, cl1))), .inr (.inr (.inl (al2, bl2, i2))), .inl x3, .inl x4, _, _], [] => if al0 = 23 ∧ bl0 = 0 ∧ cl0 = 0 ∧ al1 = 1 ∧ cl1 = 0 ∧ al2 = 20 ∧ bl2 = 0 then j3 w1 i2 x3 x4 M else none
  | _, _ => none) else
  none
set_option maxRecDepth 1000000 in
theorem eP_hireCost (j3 : Nat → Nat → Int32 → Int32 → Mem → Option (Int32 × Mem)) (w1 : Nat) (i2 : Nat) (x3 : Int32) (M : Mem) : run (cP_hireCost) (KP_hireCost j3) rtI 400 (seek (cP_hireCost) 0) [aR (23, 0, 0), aR (1, w1, 0), aR (20, 0, i2), aI x3, aU, aU, aU] [] M = mP_hireCostb j3 w1 i2 x3 M := id rfl
theorem lP_hireCost {E : EV} {l : Launch} {p : Program} {e : Env} {s : State} {m : MethodId} {args : Array Value} {below : List Frame} {meth : Method} {c : Code} (A : AllOK E l 4 "FreeLances$Plans" prog_5_method_9_code 7 (some .int) outI (cP_hireCost)) (C : Cx E p s m args meth c "FreeLances$Plans" prog_5_method_9_code 7 (some .int)) : ∀ (w1 : Nat) (i2 : Nat) (x3 : Int32) (M : Mem) (res : (Int32 × Mem)), mP_hireCost w1 i2 x3 M = some res → Wm E p l e 4 s m args below meth c 7 0 [aR (23, 0, 0), aR (1, w1, 0), aR (20, 0, i2), aI x3, aU, aU, aU] [] M (outI res).1 (outI res).2 := by
  intro w1 i2 x3 M res h
  refine run_at C A rfl hrtI (n := 400) ((eP_hireCost (mP_hireCost_3 fuel) w1 i2 x3 M).trans h) ?_
  intro t als st M hk
  unfold KP_hireCost at hk
  split at hk
  · rename_i ht
    subst ht
    split at hk
    · split at hk
      · rename_i hc
        obtain ⟨rfl, rfl, rfl, rfl, rfl, rfl, rfl⟩ := hc
        exact lP_hireCost_3 A C _ _ _ _ _ _ _ hk _ _
      · cases hk
    · cases hk
  cases hk
def dP_hireCost {β : Type} : Den β := fun as M k => match as with
  | [.inr (.inr (.inl (al0, bl0, cl0))), .inr (.inr (.inl (al1, w1, cl1))), .inr (.inr (.inl (al2, bl2, i2))), .inl x3] => if al0 = 23 ∧ bl0 = 0 ∧ cl0 = 0 ∧ al1 = 1 ∧ cl1 = 0 ∧ al2 = 20 ∧ bl2 = 0 then (mP_hireCost w1 i2 x3 M).bind fun q => k (aI q.1) q.2 else none
  | _ => none
theorem wP_hireCost {E : EV} (hsd : E.2.2.2 = 0) (l : Launch) (w1 : Nat) (i2 : Nat) (x3 : Int32) (M : Mem) (q : (Int32 × Mem)) (hq : mP_hireCost w1 i2 x3 M = some q) : Con E l 4 yP_hireCost prog_5_method_9_code 7 (some .int) [aR (23, 0, 0), aR (1, w1, 0), aR (20, 0, i2), aI x3] M (outI q).1 (outI q).2 := by
  refine con_of iP_hireCost (Nat.le_of_ble_eq_true rfl) ?_
  intro p e s m args below meth c C
  exact lP_hireCost (oP_hireCost hsd l) C w1 i2 x3 M _ hq
theorem kP_hireCost {E : EV} (hsd : E.2.2.2 = 0) (l : Launch) {β : Type} : DenOK E l 4 yP_hireCost prog_5_method_9_code 7 (some .int) true (dP_hireCost (β := β)) := by
  intro as M k res h
  unfold dP_hireCost at h
  split at h
  ·
    split at h
    · rename_i hc
      obtain ⟨rfl, rfl, rfl, rfl, rfl, rfl, rfl⟩ := hc
      obtain ⟨q, hq, hk⟩ := Option.bind_eq_some_iff.mp h
      exact ⟨aI q.1, q.2, hk, rfl, wP_hireCost hsd l _ _ _ M q hq⟩
    · cases h
  · cases h
theorem qP_hireCost {β : Type} : RecOK 23 (dP_hireCost (β := β)) := by
  intro as M k res h
  unfold dP_hireCost at h
  split at h
  ·
    split at h
    · rename_i hc
      obtain ⟨rfl, rfl, rfl, rfl, rfl, rfl, rfl⟩ := hc
      exact ⟨_, _, _, rfl⟩
    · cases h
  · cases h
/-! ===== FreeLances$Plans.hiredIn(LFreeLances$World;[III)I ===== -/
abbrev yP_hiredIn : MethodName := ⟨"FreeLances$Plans", "hiredIn", "(LFreeLances$World;[III)I"⟩
theorem iP_hiredIn : MI yP_hiredIn prog_5_method_10_code 7 (some .int) 4 := ⟨tw1059, tw107, ⟨by decide, by decide⟩, by decide +kernel, by decide, by decide⟩
def cP_hiredIn : List (Ent (Int32 × Mem)) := [(false, 0, 1, sC (-1)),
  (false, 1, 2, sStI 5),
  (false, 3, 1, sC 0),
  (false, 4, 2, sStI 6),
  (true, 6, 2, sLdI 6),
  (false, 8, 2, sLdI 4),
  (false, 10, 3, sCmpGt 37),
  (false, 13, 2, sLdI 6),
  (false, 15, 1, sLdI 3),
  (false, 16, 3, sCmpGe 37),
  (false, 19, 1, sLdA 0),
  (false, 20, 1, sLdA 1),
  (false, 21, 1, sLdA 2),
  (false, 22, 2, sLdI 6),
  (false, 24, 2, sLdI 5),
  (false, 26, 3, sInv 5 true dP_hireChoice),
  (false, 29, 2, sStI 5),
  (false, 31, 3, sInc 6 1),
  (false, 34, 3, sGoto 6),
  (false, 37, 2, sLdI 5),
  (false, 39, 1, sRetI)]
theorem oP_hiredIn {E : EV} (hsd : E.2.2.2 = 0) (l : Launch) : AllOK E l 4 "FreeLances$Plans" prog_5_method_10_code 7 (some .int) outI (cP_hiredIn) := by
  refine ak (ok_iconst (n := (-1)) (by decide) (by decide +kernel)) ?_
  refine ak (ok_istore (by decide) (by decide +kernel)) ?_
  refine ak (ok_iconst (n := 0) (by decide) (by decide +kernel)) ?_
  refine ak (ok_istore (by decide) (by decide +kernel)) ?_
  refine ak (ok_iload (by decide +kernel)) ?_
  refine ak (ok_iload (by decide +kernel)) ?_
  refine ak (ok_icmp_gt (off := 27) (by decide) (by decide +kernel)) ?_
  refine ak (ok_iload (by decide +kernel)) ?_
  refine ak (ok_iload_n (k := 3) rfl (by decide +kernel)) ?_
  refine ak (ok_icmp_ge (off := 21) (by decide) (by decide +kernel)) ?_
  refine ak (ok_aload_n (k := 0) rfl (by decide +kernel)) ?_
  refine ak (ok_aload_n (k := 1) rfl (by decide +kernel)) ?_
  refine ak (ok_aload_n (k := 2) rfl (by decide +kernel)) ?_
  refine ak (ok_iload (by decide +kernel)) ?_
  refine ak (ok_iload (by decide +kernel)) ?_
  refine ak (ok_invV (r := 23) (kP_hireChoice hsd l) qP_hireChoice ck3 kd23 iP_hireChoice tw1050 tw26 (by decide) tw1048 (by decide +kernel)) ?_
  refine ak (ok_istore (by decide) (by decide +kernel)) ?_
  refine ak (ok_iinc (n := 1) (by decide) (by decide) (by decide +kernel)) ?_
  refine ak (ok_goto (off := (-28)) (by decide) (by decide +kernel)) ?_
  refine ak (ok_iload (by decide +kernel)) ?_
  refine ak (ok_ireturn rfl (by decide +kernel)) ?_
  exact trivial
def KP_hiredIn_6 (j6 : Nat → Nat → Int32 → Int32 → Int32 → Int32 → Mem → Option (Int32 × Mem)) : Jm (Int32 × Mem) := fun t als st M =>
  if t = 6 then (match als, st with
  | [.inr (.inr (.inl (al0, bl0, cl0))), .inr (.inr (.inl (al1, w1, cl1))), .inr (.inr (.inl (al2, bl2, i2))), .inl x3, .inl x4, .inl x5, .inl x6], [] => if al0 = 23 ∧ bl0 = 0 ∧ cl0 = 0 ∧ al1 = 1 ∧ cl1 = 0 ∧ al2 = 20 ∧ bl2 = 0 then j6 w1 i2 x3 x4 x5 x6 M else none
  | _, _ => none) else
  none
set_option maxRecDepth 1000000 in
theorem eP_hiredIn_6 (j6 : Nat → Nat → Int32 → Int32 → Int32 → Int32 → Mem → Option (Int32 × Mem)) (w1 : Nat) (i2 : Nat) (x3 : Int32) (x4 : Int32) (x5 : Int32) (x6 : Int32) (M : Mem) : run (cP_hiredIn) (KP_hiredIn_6 j6) rtI 400 (seek (cP_hiredIn) 6) [aR (23, 0, 0), aR (1, w1, 0), aR (20, 0, i2), aI x3, aI x4, aI x5, aI x6] [] M = mP_hiredIn_6b j6 w1 i2 x3 x4 x5 x6 M := id rfl
theorem lP_hiredIn_6 {E : EV} {l : Launch} {p : Program} {e : Env} {s : State} {m : MethodId} {args : Array Value} {below : List Frame} {meth : Method} {c : Code} (A : AllOK E l 4 "FreeLances$Plans" prog_5_method_10_code 7 (some .int) outI (cP_hiredIn)) (C : Cx E p s m args meth c "FreeLances$Plans" prog_5_method_10_code 7 (some .int)) : ∀ (n : Nat), ∀ (w1 : Nat) (i2 : Nat) (x3 : Int32) (x4 : Int32) (x5 : Int32) (x6 : Int32) (M : Mem) (res : (Int32 × Mem)), mP_hiredIn_6 n w1 i2 x3 x4 x5 x6 M = some res → Wm E p l e 4 s m args below meth c 7 6 [aR (23, 0, 0), aR (1, w1, 0), aR (20, 0, i2), aI x3, aI x4, aI x5, aI x6] [] M (outI res).1 (outI res).2 := by
  intro n
  induction n with
  | zero => intro _ _ _ _ _ _ M res h; cases h
  | succ n ih =>
    intro w1 i2 x3 x4 x5 x6 M res h
    refine run_at C A rfl hrtI (n := 400) ((eP_hiredIn_6 (mP_hiredIn_6 n) w1 i2 x3 x4 x5 x6 M).trans h) ?_
    intro t als st M hk
    unfold KP_hiredIn_6 at hk
    split at hk
    · rename_i ht
      subst ht
      split at hk
      · split at hk
        · rename_i hc
          obtain ⟨rfl, rfl, rfl, rfl, rfl, rfl, rfl⟩ := hc
          exact ih _ _ _ _ _ _ _ _ hk
        · cases hk
      · cases hk
    cases hk
def KP_hiredIn (j6 : Nat → Nat → Int32 → Int32 → Int32 → Int32 → Mem → Option (Int32 × Mem)) : Jm (Int32 × Mem) := fun t als st M =>
  if t = 6 then (match als, st with
  | [.inr (.inr (.inl (al0, bl0, cl0))), .inr (.inr (.inl (al1, w1, cl1))), .inr (.inr (.inl (al2, bl2, i2))), .inl x3, .inl x4, .inl x5, .inl x6], [] => if al0 = 23 ∧ bl0 = 0 ∧ cl0 = 0 ∧ al1 = 1 ∧ cl1 = 0 ∧ al2 = 20 ∧ bl2 = 0 then j6 w1 i2 x3 x4 x5 x6 M else none
  | _, _ => none) else
  none
set_option maxRecDepth 1000000 in
theorem eP_hiredIn (j6 : Nat → Nat → Int32 → Int32 → Int32 → Int32 → Mem → Option (Int32 × Mem)) (w1 : Nat) (i2 : Nat) (x3 : Int32) (x4 : Int32) (M : Mem) : run (cP_hiredIn) (KP_hiredIn j6) rtI 400 (seek (cP_hiredIn) 0) [aR (23, 0, 0), aR (1, w1, 0), aR (20, 0, i2), aI x3, aI x4, aU, aU] [] M = mP_hiredInb j6 w1 i2 x3 x4 M := id rfl
theorem lP_hiredIn {E : EV} {l : Launch} {p : Program} {e : Env} {s : State} {m : MethodId} {args : Array Value} {below : List Frame} {meth : Method} {c : Code} (A : AllOK E l 4 "FreeLances$Plans" prog_5_method_10_code 7 (some .int) outI (cP_hiredIn)) (C : Cx E p s m args meth c "FreeLances$Plans" prog_5_method_10_code 7 (some .int)) : ∀ (w1 : Nat) (i2 : Nat) (x3 : Int32) (x4 : Int32) (M : Mem) (res : (Int32 × Mem)), mP_hiredIn w1 i2 x3 x4 M = some res → Wm E p l e 4 s m args below meth c 7 0 [aR (23, 0, 0), aR (1, w1, 0), aR (20, 0, i2), aI x3, aI x4, aU, aU] [] M (outI res).1 (outI res).2 := by
  intro w1 i2 x3 x4 M res h
  refine run_at C A rfl hrtI (n := 400) ((eP_hiredIn (mP_hiredIn_6 fuel) w1 i2 x3 x4 M).trans h) ?_
  intro t als st M hk
  unfold KP_hiredIn at hk
  split at hk
  · rename_i ht
    subst ht
    split at hk
    · split at hk
      · rename_i hc
        obtain ⟨rfl, rfl, rfl, rfl, rfl, rfl, rfl⟩ := hc
        exact lP_hiredIn_6 A C _ _ _ _ _ _ _ _ _ hk
      · cases hk
    · cases hk
  cases hk
def dP_hiredIn {β : Type} : Den β := fun as M k => match as with
  | [.inr (.inr (.inl (al0, bl0, cl0))), .inr (.inr (.inl (al1, w1, cl1))), .inr (.inr (.inl (al2, bl2, i2))), .inl x3, .inl x4] => if al0 = 23 ∧ bl0 = 0 ∧ cl0 = 0 ∧ al1 = 1 ∧ cl1 = 0 ∧ al2 = 20 ∧ bl2 = 0 then (mP_hiredIn w1 i2 x3 x4 M).bind fun q => k (aI q.1) q.2 else none
  | _ => none
theorem wP_hiredIn {E : EV} (hsd : E.2.2.2 = 0) (l : Launch) (w1 : Nat) (i2 : Nat) (x3 : Int32) (x4 : Int32) (M : Mem) (q : (Int32 × Mem)) (hq : mP_hiredIn w1 i2 x3 x4 M = some q) : Con E l 4 yP_hiredIn prog_5_method_10_code 7 (some .int) [aR (23, 0, 0), aR (1, w1, 0), aR (20, 0, i2), aI x3, aI x4] M (outI q).1 (outI q).2 := by
  refine con_of iP_hiredIn (Nat.le_of_ble_eq_true rfl) ?_
  intro p e s m args below meth c C
  exact lP_hiredIn (oP_hiredIn hsd l) C w1 i2 x3 x4 M _ hq
theorem kP_hiredIn {E : EV} (hsd : E.2.2.2 = 0) (l : Launch) {β : Type} : DenOK E l 4 yP_hiredIn prog_5_method_10_code 7 (some .int) true (dP_hiredIn (β := β)) := by
  intro as M k res h
  unfold dP_hiredIn at h
  split at h
  ·
    split at h
    · rename_i hc
      obtain ⟨rfl, rfl, rfl, rfl, rfl, rfl, rfl⟩ := hc
      obtain ⟨q, hq, hk⟩ := Option.bind_eq_some_iff.mp h
      exact ⟨aI q.1, q.2, hk, rfl, wP_hiredIn hsd l _ _ _ _ M q hq⟩
    · cases h
  · cases h
theorem qP_hiredIn {β : Type} : RecOK 23 (dP_hiredIn (β := β)) := by
  intro as M k res h
  unfold dP_hiredIn at h
  split at h
  ·
    split at h
    · rename_i hc
      obtain ⟨rfl, rfl, rfl, rfl, rfl, rfl, rfl⟩ := hc
      exact ⟨_, _, _, rfl⟩
    · cases h
  · cases h
/-! ===== FreeLances.hiring(II)I ===== -/
abbrev yF_hiring : MethodName := ⟨"FreeLances", "hiring", "(II)I"⟩
theorem iF_hiring : MI yF_hiring prog_1_method_42_code 6 (some .int) 2 := ⟨tw1040, tw97, ⟨by decide, by decide⟩, by decide +kernel, by decide, by decide⟩
def cF_hiring : List (Ent (Int32 × Mem)) := [(false, 0, 1, sLdI 1),
  (false, 1, 3, sInv 1 true dF_isSheet),
  (false, 4, 3, sIfNe 13),
  (false, 7, 1, sLdA 0),
  (false, 8, 1, sC 1),
  (false, 9, 3, sInv 2 true dF_finding),
  (false, 12, 1, sRetI),
  (false, 13, 1, sLdA 0),
  (false, 14, 3, sGet 0 (fun w i M => aR (18, 0, 0))),
  (false, 17, 1, sLdI 1),
  (false, 18, 1, sAald 18 4 19),
  (false, 19, 1, sStA 3),
  (false, 20, 1, sLdA 3),
  (false, 21, 3, sInv 1 true dS_missing),
  (false, 24, 3, sIfEq 33),
  (false, 27, 1, sLdA 0),
  (false, 28, 1, sC 2),
  (false, 29, 3, sInv 2 true dF_finding),
  (false, 32, 1, sRetI),
  (false, 33, 1, sLdA 3),
  (false, 34, 1, sC 5),
  (false, 35, 3, sInv 2 true dS_inThrees),
  (false, 38, 3, sIfNe 47),
  (false, 41, 1, sLdA 0),
  (false, 42, 1, sC 5),
  (false, 43, 3, sInv 2 true dF_finding),
  (false, 46, 1, sRetI),
  (false, 47, 1, sLdA 3),
  (false, 48, 3, sGet 19 (fun w i M => aI (M 19 w i 1))),
  (false, 51, 1, sC 3),
  (false, 52, 1, sBin0 (fun x y => x / y)),
  (false, 53, 2, sStI 4),
  (false, 55, 1, sLdI 2),
  (false, 56, 1, sC (-1)),
  (false, 57, 2, sLdI 4),
  (false, 59, 1, sC 1),
  (false, 60, 1, sBin (fun x y => x - y)),
  (false, 61, 3, sInv 3 true dF_within),
  (false, 64, 3, sIfNe 73),
  (false, 67, 1, sLdA 0),
  (false, 68, 1, sC 1),
  (false, 69, 3, sInv 2 true dF_finding),
  (false, 72, 1, sRetI),
  (false, 73, 1, sLdA 0),
  (false, 74, 3, sGet 0 (fun w i M => aR (23, 0, 0))),
  (false, 77, 1, sLdA 0),
  (false, 78, 3, sGet 0 (fun w i M => aR (1, 0, 0))),
  (false, 81, 1, sLdA 3),
  (false, 82, 3, sGet 19 (fun w i M => aR (20, w, i))),
  (false, 85, 2, sLdI 4),
  (false, 87, 3, sInv 4 true dP_hireCost),
  (false, 90, 2, sStI 5),
  (false, 92, 1, sLdI 2),
  (false, 93, 3, sIfGe 101),
  (false, 96, 2, sLdI 5),
  (false, 98, 3, sGoto 119),
  (false, 101, 1, sLdA 0),
  (false, 102, 3, sGet 0 (fun w i M => aR (23, 0, 0))),
  (false, 105, 1, sLdA 0),
  (false, 106, 3, sGet 0 (fun w i M => aR (1, 0, 0))),
  (false, 109, 1, sLdA 3),
  (false, 110, 3, sGet 19 (fun w i M => aR (20, w, i))),
  (false, 113, 2, sLdI 4),
  (false, 115, 1, sLdI 2),
  (false, 116, 3, sInv 5 true dP_hiredIn),
  (false, 119, 1, sRetI)]
theorem oF_hiring {E : EV} (hsd : E.2.2.2 = 0) (l : Launch) : AllOK E l 5 "FreeLances" prog_1_method_42_code 6 (some .int) outI (cF_hiring) := by
  refine ak (ok_iload_n (k := 1) rfl (by decide +kernel)) ?_
  refine ak (ok_invS (kF_isSheet hsd l) iF_isSheet tw916 (by decide) tw915 (by decide +kernel)) ?_
  refine ak (ok_if_ne (off := 9) (by decide) (by decide +kernel)) ?_
  refine ak (ok_aload_n (k := 0) rfl (by decide +kernel)) ?_
  refine ak (ok_iconst (n := 1) (by decide) (by decide +kernel)) ?_
  refine ak (ok_invV (r := 0) (kF_finding hsd l) qF_finding ck10 kd0 iF_finding tw557 tw0 (by decide) tw555 (by decide +kernel)) ?_
  refine ak (ok_ireturn rfl (by decide +kernel)) ?_
  refine ak (ok_aload_n (k := 0) rfl (by decide +kernel)) ?_
  refine ak (ok_get (k := 3) ck10 kd0 (by decide) (fun _ _ _ => rfl) (vf_0_3 hsd) tw525 (by decide +kernel)) ?_
  refine ak (ok_iload_n (k := 1) rfl (by decide +kernel)) ?_
  refine ak (ok_aald (t0 := 7) (C := RX5) kd18 (by decide) rfl (vr_18 hsd) (by decide +kernel)) ?_
  refine ak (ok_astore_n (k := 3) rfl (by decide) (by decide +kernel)) ?_
  refine ak (ok_aload_n (k := 3) rfl (by decide +kernel)) ?_
  refine ak (ok_invV (r := 19) (kS_missing hsd l) qS_missing ck5 kd19 iS_missing tw919 tw920 (by decide) tw918 (by decide +kernel)) ?_
  refine ak (ok_if_eq (off := 9) (by decide) (by decide +kernel)) ?_
  refine ak (ok_aload_n (k := 0) rfl (by decide +kernel)) ?_
  refine ak (ok_iconst (n := 2) (by decide) (by decide +kernel)) ?_
  refine ak (ok_invV (r := 0) (kF_finding hsd l) qF_finding ck10 kd0 iF_finding tw557 tw0 (by decide) tw555 (by decide +kernel)) ?_
  refine ak (ok_ireturn rfl (by decide +kernel)) ?_
  refine ak (ok_aload_n (k := 3) rfl (by decide +kernel)) ?_
  refine ak (ok_iconst (n := 5) (by decide) (by decide +kernel)) ?_
  refine ak (ok_invV (r := 19) (kS_inThrees hsd l) qS_inThrees ck5 kd19 iS_inThrees tw975 tw976 (by decide) tw974 (by decide +kernel)) ?_
  refine ak (ok_if_ne (off := 9) (by decide) (by decide +kernel)) ?_
  refine ak (ok_aload_n (k := 0) rfl (by decide +kernel)) ?_
  refine ak (ok_iconst (n := 5) (by decide) (by decide +kernel)) ?_
  refine ak (ok_invV (r := 0) (kF_finding hsd l) qF_finding ck10 kd0 iF_finding tw557 tw0 (by decide) tw555 (by decide +kernel)) ?_
  refine ak (ok_ireturn rfl (by decide +kernel)) ?_
  refine ak (ok_aload_n (k := 3) rfl (by decide +kernel)) ?_
  refine ak (ok_get (k := 1) ck5 kd19 (by decide) (fun _ _ _ => rfl) (fun _ _ _ _ _ => trivial) tw473 (by decide +kernel)) ?_
  refine ak (ok_iconst (n := 3) (by decide) (by decide +kernel)) ?_
  refine ak (ok_idiv (by decide +kernel)) ?_
  refine ak (ok_istore (by decide) (by decide +kernel)) ?_
  refine ak (ok_iload_n (k := 2) rfl (by decide +kernel)) ?_
  refine ak (ok_iconst (n := (-1)) (by decide) (by decide +kernel)) ?_
  refine ak (ok_iload (by decide +kernel)) ?_
  refine ak (ok_iconst (n := 1) (by decide) (by decide +kernel)) ?_
  refine ak (ok_isub (by decide +kernel)) ?_
  refine ak (ok_invS (kF_within hsd l) iF_within tw553 (by decide) tw552 (by decide +kernel)) ?_
  refine ak (ok_if_ne (off := 9) (by decide) (by decide +kernel)) ?_
  refine ak (ok_aload_n (k := 0) rfl (by decide +kernel)) ?_
  refine ak (ok_iconst (n := 1) (by decide) (by decide +kernel)) ?_
  refine ak (ok_invV (r := 0) (kF_finding hsd l) qF_finding ck10 kd0 iF_finding tw557 tw0 (by decide) tw555 (by decide +kernel)) ?_
  refine ak (ok_ireturn rfl (by decide +kernel)) ?_
  refine ak (ok_aload_n (k := 0) rfl (by decide +kernel)) ?_
  refine ak (ok_get (k := 5) ck10 kd0 (by decide) (fun _ _ _ => rfl) (vf_0_5 hsd) tw527 (by decide +kernel)) ?_
  refine ak (ok_aload_n (k := 0) rfl (by decide +kernel)) ?_
  refine ak (ok_get (k := 0) ck10 kd0 (by decide) (fun _ _ _ => rfl) (vf_0_0 hsd) tw522 (by decide +kernel)) ?_
  refine ak (ok_aload_n (k := 3) rfl (by decide +kernel)) ?_
  refine ak (ok_get (k := 2) ck5 kd19 (by decide) (fun _ _ _ => rfl) (vf_19_2 hsd) tw477 (by decide +kernel)) ?_
  refine ak (ok_iload (by decide +kernel)) ?_
  refine ak (ok_invV (r := 23) (kP_hireCost hsd l) qP_hireCost ck3 kd23 iP_hireCost tw1042 tw1043 (by decide) tw1041 (by decide +kernel)) ?_
  refine ak (ok_istore (by decide) (by decide +kernel)) ?_
  refine ak (ok_iload_n (k := 2) rfl (by decide +kernel)) ?_
  refine ak (ok_if_ge (off := 8) (by decide) (by decide +kernel)) ?_
  refine ak (ok_iload (by decide +kernel)) ?_
  refine ak (ok_goto (off := 21) (by decide) (by decide +kernel)) ?_
  refine ak (ok_aload_n (k := 0) rfl (by decide +kernel)) ?_
  refine ak (ok_get (k := 5) ck10 kd0 (by decide) (fun _ _ _ => rfl) (vf_0_5 hsd) tw527 (by decide +kernel)) ?_
  refine ak (ok_aload_n (k := 0) rfl (by decide +kernel)) ?_
  refine ak (ok_get (k := 0) ck10 kd0 (by decide) (fun _ _ _ => rfl) (vf_0_0 hsd) tw522 (by decide +kernel)) ?_
  refine ak (ok_aload_n (k := 3) rfl (by decide +kernel)) ?_
  refine ak (ok_get (k := 2) ck5 kd19 (by decide) (fun _ _ _ => rfl) (vf_19_2 hsd) tw477 (by decide +kernel)) ?_
  refine ak (ok_iload (by decide +kernel)) ?_
  refine ak (ok_iload_n (k := 2) rfl (by decide +kernel)) ?_
  refine ak (ok_invV (r := 23) (kP_hiredIn hsd l) qP_hiredIn ck3 kd23 iP_hiredIn tw1057 tw1058 (by decide) tw1056 (by decide +kernel)) ?_
  refine ak (ok_ireturn rfl (by decide +kernel)) ?_
  exact trivial
set_option maxRecDepth 1000000 in
theorem eF_hiring (x1 : Int32) (x2 : Int32) (M : Mem) : run (cF_hiring) (fun _ _ _ _ => none) rtI 400 (seek (cF_hiring) 0) [aR (0, 0, 0), aI x1, aI x2, aU, aU, aU] [] M = mF_hiring x1 x2 M := id rfl
theorem lF_hiring {E : EV} {l : Launch} {p : Program} {e : Env} {s : State} {m : MethodId} {args : Array Value} {below : List Frame} {meth : Method} {c : Code} (A : AllOK E l 5 "FreeLances" prog_1_method_42_code 6 (some .int) outI (cF_hiring)) (C : Cx E p s m args meth c "FreeLances" prog_1_method_42_code 6 (some .int)) : ∀ (x1 : Int32) (x2 : Int32) (M : Mem) (res : (Int32 × Mem)), mF_hiring x1 x2 M = some res → Wm E p l e 5 s m args below meth c 6 0 [aR (0, 0, 0), aI x1, aI x2, aU, aU, aU] [] M (outI res).1 (outI res).2 := by
  intro x1 x2 M res h
  refine run_at C A rfl hrtI (n := 400) ((eF_hiring x1 x2 M).trans h) ?_
  intro t als st M hk; cases hk
def dF_hiring {β : Type} : Den β := fun as M k => match as with
  | [.inr (.inr (.inl (al0, bl0, cl0))), .inl x1, .inl x2] => if al0 = 0 ∧ bl0 = 0 ∧ cl0 = 0 then (mF_hiring x1 x2 M).bind fun q => k (aI q.1) q.2 else none
  | _ => none
theorem wF_hiring {E : EV} (hsd : E.2.2.2 = 0) (l : Launch) (x1 : Int32) (x2 : Int32) (M : Mem) (q : (Int32 × Mem)) (hq : mF_hiring x1 x2 M = some q) : Con E l 5 yF_hiring prog_1_method_42_code 6 (some .int) [aR (0, 0, 0), aI x1, aI x2] M (outI q).1 (outI q).2 := by
  refine con_of iF_hiring (Nat.le_of_ble_eq_true rfl) ?_
  intro p e s m args below meth c C
  exact lF_hiring (oF_hiring hsd l) C x1 x2 M _ hq
theorem kF_hiring {E : EV} (hsd : E.2.2.2 = 0) (l : Launch) {β : Type} : DenOK E l 5 yF_hiring prog_1_method_42_code 6 (some .int) true (dF_hiring (β := β)) := by
  intro as M k res h
  unfold dF_hiring at h
  split at h
  ·
    split at h
    · rename_i hc
      obtain ⟨rfl, rfl, rfl⟩ := hc
      obtain ⟨q, hq, hk⟩ := Option.bind_eq_some_iff.mp h
      exact ⟨aI q.1, q.2, hk, rfl, wF_hiring hsd l _ _ M q hq⟩
    · cases h
  · cases h
theorem qF_hiring {β : Type} : RecOK 0 (dF_hiring (β := β)) := by
  intro as M k res h
  unfold dF_hiring at h
  split at h
  ·
    split at h
    · rename_i hc
      obtain ⟨rfl, rfl, rfl⟩ := hc
      exact ⟨_, _, _, rfl⟩
    · cases h
  · cases h
