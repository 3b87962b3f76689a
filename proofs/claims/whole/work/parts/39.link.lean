/-! ===== FreeLancesModel.winter(III)I ===== -/
abbrev yK_winter : MethodName := ⟨"FreeLancesModel", "winter", "(III)I"⟩
theorem iK_winter : MI yK_winter prog_13_method_90_code 5 (some .int) 3 := ⟨tw1674, tw108, ⟨by decide, by decide⟩, by decide +kernel, by decide, by decide⟩
def cK_winter : List (Ent (Int32 × Mem)) := [(false, 0, 1, sLdA 0),
  (false, 1, 1, sLdI 1),
  (false, 2, 3, sInv 2 true dK_isCompany),
  (false, 5, 3, sIfEq 27),
  (false, 8, 1, sLdA 0),
  (false, 9, 1, sLdI 2),
  (false, 10, 3, sInv 2 true dK_isTown),
  (false, 13, 3, sIfEq 27),
  (false, 16, 1, sLdI 3),
  (false, 17, 1, sC 0),
  (false, 18, 3, sC 9999),
  (false, 21, 3, sInv 3 true dK_in),
  (false, 24, 3, sIfNe 33),
  (false, 27, 1, sLdA 0),
  (false, 28, 1, sC 1),
  (false, 29, 3, sInv 2 true dK_finds),
  (false, 32, 1, sRetI),
  (false, 33, 1, sLdA 0),
  (false, 34, 3, sGet 40 (fun w i M => aR (41, 0, 0))),
  (false, 37, 3, sC 1392),
  (false, 40, 2, sC 8),
  (false, 42, 1, sLdI 1),
  (false, 43, 1, sBin (fun x y => x * y)),
  (false, 44, 1, sBin (fun x y => x + y)),
  (false, 45, 1, sLdI 2),
  (false, 46, 1, sBin (fun x y => x + y)),
  (false, 47, 1, sIald 41 1502),
  (false, 48, 2, sStI 4),
  (false, 50, 1, sLdA 0),
  (false, 51, 3, sGet 40 (fun w i M => aR (41, 0, 0))),
  (false, 54, 3, sC 1392),
  (false, 57, 2, sC 8),
  (false, 59, 1, sLdI 1),
  (false, 60, 1, sBin (fun x y => x * y)),
  (false, 61, 1, sBin (fun x y => x + y)),
  (false, 62, 1, sLdI 2),
  (false, 63, 1, sBin (fun x y => x + y)),
  (false, 64, 1, sLdI 3),
  (false, 65, 1, sIast 41 1502),
  (false, 66, 2, sLdI 4),
  (false, 68, 1, sRetI)]
theorem oK_winter {E : EV} (hsd : E.2.2.2 = 1) (l : Launch) : AllOK E l 3 "FreeLancesModel" prog_13_method_90_code 5 (some .int) outI (cK_winter) := by
  refine ak (ok_aload_n (k := 0) rfl (by decide +kernel)) ?_
  refine ak (ok_iload_n (k := 1) rfl (by decide +kernel)) ?_
  refine ak (ok_invV (r := 40) (kK_isCompany hsd l) qK_isCompany ck11 kd40 iK_isCompany tw1392 tw44 (by decide) tw1390 (by decide +kernel)) ?_
  refine ak (ok_if_eq (off := 22) (by decide) (by decide +kernel)) ?_
  refine ak (ok_aload_n (k := 0) rfl (by decide +kernel)) ?_
  refine ak (ok_iload_n (k := 2) rfl (by decide +kernel)) ?_
  refine ak (ok_invV (r := 40) (kK_isTown hsd l) qK_isTown ck11 kd40 iK_isTown tw1343 tw38 (by decide) tw1341 (by decide +kernel)) ?_
  refine ak (ok_if_eq (off := 14) (by decide) (by decide +kernel)) ?_
  refine ak (ok_iload_n (k := 3) rfl (by decide +kernel)) ?_
  refine ak (ok_iconst (n := 0) (by decide) (by decide +kernel)) ?_
  refine ak (ok_sipush (n := 9999) (by decide) (by decide +kernel)) ?_
  refine ak (ok_invS (kK_in hsd l) iK_in tw1330 (by decide) tw1329 (by decide +kernel)) ?_
  refine ak (ok_if_ne (off := 9) (by decide) (by decide +kernel)) ?_
  refine ak (ok_aload_n (k := 0) rfl (by decide +kernel)) ?_
  refine ak (ok_iconst (n := 1) (by decide) (by decide +kernel)) ?_
  refine ak (ok_invV (r := 40) (kK_finds hsd l) qK_finds ck11 kd40 iK_finds tw1334 tw37 (by decide) tw1332 (by decide +kernel)) ?_
  refine ak (ok_ireturn rfl (by decide +kernel)) ?_
  refine ak (ok_aload_n (k := 0) rfl (by decide +kernel)) ?_
  refine ak (ok_get (k := 0) ck11 kd40 (by decide) (fun _ _ _ => rfl) (vf_40_0 hsd) tw1242 (by decide +kernel)) ?_
  refine ak (ok_sipush (n := 1392) (by decide) (by decide +kernel)) ?_
  refine ak (ok_bipush (n := 8) (by decide) (by decide +kernel)) ?_
  refine ak (ok_iload_n (k := 1) rfl (by decide +kernel)) ?_
  refine ak (ok_imul (by decide +kernel)) ?_
  refine ak (ok_iadd (by decide +kernel)) ?_
  refine ak (ok_iload_n (k := 2) rfl (by decide +kernel)) ?_
  refine ak (ok_iadd (by decide +kernel)) ?_
  refine ak (ok_iald kd41 (by decide) (by decide +kernel)) ?_
  refine ak (ok_istore (by decide) (by decide +kernel)) ?_
  refine ak (ok_aload_n (k := 0) rfl (by decide +kernel)) ?_
  refine ak (ok_get (k := 0) ck11 kd40 (by decide) (fun _ _ _ => rfl) (vf_40_0 hsd) tw1242 (by decide +kernel)) ?_
  refine ak (ok_sipush (n := 1392) (by decide) (by decide +kernel)) ?_
  refine ak (ok_bipush (n := 8) (by decide) (by decide +kernel)) ?_
  refine ak (ok_iload_n (k := 1) rfl (by decide +kernel)) ?_
  refine ak (ok_imul (by decide +kernel)) ?_
  refine ak (ok_iadd (by decide +kernel)) ?_
  refine ak (ok_iload_n (k := 2) rfl (by decide +kernel)) ?_
  refine ak (ok_iadd (by decide +kernel)) ?_
  refine ak (ok_iload_n (k := 3) rfl (by decide +kernel)) ?_
  refine ak (ok_iast kd41 (by decide) (by decide) (by decide +kernel)) ?_
  refine ak (ok_iload (by decide +kernel)) ?_
  refine ak (ok_ireturn rfl (by decide +kernel)) ?_
  exact trivial
set_option maxRecDepth 1000000 in
theorem eK_winter (x1 : Int32) (x2 : Int32) (x3 : Int32) (M : Mem) : run (cK_winter) (fun _ _ _ _ => none) rtI 400 (seek (cK_winter) 0) [aR (40, 0, 0), aI x1, aI x2, aI x3, aU] [] M = mK_winter x1 x2 x3 M := id rfl
theorem lK_winter {E : EV} {l : Launch} {p : Program} {e : Env} {s : State} {m : MethodId} {args : Array Value} {below : List Frame} {meth : Method} {c : Code} (A : AllOK E l 3 "FreeLancesModel" prog_13_method_90_code 5 (some .int) outI (cK_winter)) (C : Cx E p s m args meth c "FreeLancesModel" prog_13_method_90_code 5 (some .int)) : ∀ (x1 : Int32) (x2 : Int32) (x3 : Int32) (M : Mem) (res : (Int32 × Mem)), mK_winter x1 x2 x3 M = some res → Wm E p l e 3 s m args below meth c 5 0 [aR (40, 0, 0), aI x1, aI x2, aI x3, aU] [] M (outI res).1 (outI res).2 := by
  intro x1 x2 x3 M res h
  refine run_at C A rfl hrtI (n := 400) ((eK_winter x1 x2 x3 M).trans h) ?_
  intro t als st M hk; cases hk
def dK_winter {β : Type} : Den β := fun as M k => match as with
  | [.inr (.inr (.inl (al0, bl0, cl0))), .inl x1, .inl x2, .inl x3] => if al0 = 40 ∧ bl0 = 0 ∧ cl0 = 0 then (mK_winter x1 x2 x3 M).bind fun q => k (aI q.1) q.2 else none
  | _ => none
theorem wK_winter {E : EV} (hsd : E.2.2.2 = 1) (l : Launch) (x1 : Int32) (x2 : Int32) (x3 : Int32) (M : Mem) (q : (Int32 × Mem)) (hq : mK_winter x1 x2 x3 M = some q) : Con E l 3 yK_winter prog_13_method_90_code 5 (some .int) [aR (40, 0, 0), aI x1, aI x2, aI x3] M (outI q).1 (outI q).2 := by
  refine con_of iK_winter (Nat.le_of_ble_eq_true rfl) ?_
  intro p e s m args below meth c C
  exact lK_winter (oK_winter hsd l) C x1 x2 x3 M _ hq
theorem kK_winter {E : EV} (hsd : E.2.2.2 = 1) (l : Launch) {β : Type} : DenOK E l 3 yK_winter prog_13_method_90_code 5 (some .int) true (dK_winter (β := β)) := by
  intro as M k res h
  unfold dK_winter at h
  split at h
  ·
    split at h
    · rename_i hc
      obtain ⟨rfl, rfl, rfl⟩ := hc
      obtain ⟨q, hq, hk⟩ := Option.bind_eq_some_iff.mp h
      exact ⟨aI q.1, q.2, hk, rfl, wK_winter hsd l _ _ _ M q hq⟩
    · cases h
  · cases h
theorem qK_winter {β : Type} : RecOK 40 (dK_winter (β := β)) := by
  intro as M k res h
  unfold dK_winter at h
  split at h
  ·
    split at h
    · rename_i hc
      obtain ⟨rfl, rfl, rfl⟩ := hc
      exact ⟨_, _, _, rfl⟩
    · cases h
  · cases h
abbrev yK_settle : MethodName := ⟨"FreeLancesModel", "settle", "(III)V"⟩
theorem iK_settle : MI yK_settle prog_13_method_91_code 5 none 3 := ⟨tw1686, tw108, ⟨by decide, by decide⟩, by decide +kernel, by decide, by decide⟩
def dK_settle {β : Type} (rK_settle : Int32 → Int32 → Int32 → Mem → Option Mem) : Den β := fun as M k => match as with
  | [.inr (.inr (.inl (al0, bl0, cl0))), .inl x1, .inl x2, .inl x3] => if al0 = 40 ∧ bl0 = 0 ∧ cl0 = 0 then (rK_settle x1 x2 x3 M).bind fun q => k aU q else none
  | _ => none
theorem kK_settle {E : EV} {l : Launch} {D : Nat} {rK_settle : Int32 → Int32 → Int32 → Mem → Option Mem} (H : ∀ (x1 : Int32) (x2 : Int32) (x3 : Int32) (M : Mem) (q : Mem), rK_settle x1 x2 x3 M = some q → Con E l D yK_settle prog_13_method_91_code 5 none [aR (40, 0, 0), aI x1, aI x2, aI x3] M (outV q).1 (outV q).2) {β : Type} : DenOK E l D yK_settle prog_13_method_91_code 5 none false (dK_settle (β := β) rK_settle) := by
  intro as M k res h
  unfold dK_settle at h
  split at h
  ·
    split at h
    · rename_i hc
      obtain ⟨rfl, rfl, rfl⟩ := hc
      obtain ⟨q, hq, hk⟩ := Option.bind_eq_some_iff.mp h
      exact ⟨aU, q, hk, rfl, H _ _ _ M q hq⟩
    · cases h
  · cases h
theorem qK_settle {β : Type} (rK_settle : Int32 → Int32 → Int32 → Mem → Option Mem) : RecOK 40 (dK_settle (β := β) rK_settle) := by
  intro as M k res h
  unfold dK_settle at h
  split at h
  ·
    split at h
    · rename_i hc
      obtain ⟨rfl, rfl, rfl⟩ := hc
      exact ⟨_, _, _, rfl⟩
    · cases h
  · cases h
/-! ===== FreeLancesModel.settle(III)V ===== -/
def cK_settle (rK_settle : Int32 → Int32 → Int32 → Mem → Option Mem) : List (Ent Mem) := [(false, 0, 1, sLdA 0),
  (false, 1, 3, sGet 40 (fun w i M => aI (M 40 w i 15))),
  (false, 4, 3, sIfLt 16),
  (false, 7, 1, sLdI 3),
  (false, 8, 1, sLdA 0),
  (false, 9, 3, sGet 40 (fun w i M => aI (M 40 w i 15))),
  (false, 12, 3, sCmpLt 16),
  (false, 15, 1, sRetV),
  (false, 16, 1, sLdI 1),
  (false, 17, 1, sLdA 0),
  (false, 18, 3, sGet 40 (fun w i M => aR (41, 0, 0))),
  (false, 21, 1, sC 2),
  (false, 22, 1, sIald 41 1502),
  (false, 23, 3, sCmpNe 61),
  (false, 26, 1, sLdA 0),
  (false, 27, 1, sLdI 3),
  (false, 28, 3, sPut 40 15),
  (false, 31, 1, sC 0),
  (false, 32, 2, sStI 4),
  (true, 34, 2, sLdI 4),
  (false, 36, 1, sLdI 1),
  (false, 37, 3, sCmpGe 60),
  (false, 40, 1, sLdA 0),
  (false, 41, 3, sGet 40 (fun w i M => aR (55, 0, 0))),
  (false, 44, 2, sLdI 4),
  (false, 46, 1, sLdA 0),
  (false, 47, 3, sGet 40 (fun w i M => aR (54, 0, 0))),
  (false, 50, 2, sLdI 4),
  (false, 52, 1, sIald 54 5),
  (false, 53, 1, sIast 55 5),
  (false, 54, 3, sInc 4 1),
  (false, 57, 3, sGoto 34),
  (false, 60, 1, sRetV),
  (false, 61, 1, sC 0),
  (false, 62, 2, sStI 4),
  (true, 64, 2, sLdI 4),
  (false, 66, 1, sLdA 0),
  (false, 67, 3, sGet 40 (fun w i M => aR (41, 0, 0))),
  (false, 70, 1, sC 0),
  (false, 71, 1, sIald 41 1502),
  (false, 72, 3, sCmpGe 133),
  (false, 75, 1, sLdI 2),
  (false, 76, 2, sLdI 4),
  (false, 78, 1, sBin (fun x y => x >>> (y &&& 31))),
  (false, 79, 1, sC 1),
  (false, 80, 1, sBin (fun x y => x &&& y)),
  (false, 81, 1, sC 1),
  (false, 82, 3, sCmpNe 88),
  (false, 85, 3, sGoto 127),
  (false, 88, 1, sLdA 0),
  (false, 89, 3, sGet 40 (fun w i M => aR (54, 0, 0))),
  (false, 92, 1, sLdI 1),
  (false, 93, 2, sLdI 4),
  (false, 95, 1, sIast 54 5),
  (false, 96, 1, sLdA 0),
  (false, 97, 1, sLdI 1),
  (false, 98, 1, sC 1),
  (false, 99, 1, sBin (fun x y => x + y)),
  (false, 100, 1, sLdI 2),
  (false, 101, 1, sC 1),
  (false, 102, 2, sLdI 4),
  (false, 104, 1, sBin (fun x y => x <<< (y &&& 31))),
  (false, 105, 1, sBin (fun x y => x ||| y)),
  (false, 106, 1, sLdI 3),
  (false, 107, 1, sLdA 0),
  (false, 108, 3, sGet 40 (fun w i M => aR (41, 0, 0))),
  (false, 111, 3, sC 1392),
  (false, 114, 2, sC 8),
  (false, 116, 1, sLdI 1),
  (false, 117, 1, sBin (fun x y => x * y)),
  (false, 118, 1, sBin (fun x y => x + y)),
  (false, 119, 2, sLdI 4),
  (false, 121, 1, sBin (fun x y => x + y)),
  (false, 122, 1, sIald 41 1502),
  (false, 123, 1, sBin (fun x y => x + y)),
  (false, 124, 3, sInv 4 false (dK_settle rK_settle)),
  (false, 127, 3, sInc 4 1),
  (false, 130, 3, sGoto 64),
  (false, 133, 1, sRetV)]
theorem oK_settle {E : EV} (hsd : E.2.2.2 = 1) (l : Launch) (D : Nat) (hD : 0 ≤ D) (rK_settle : Int32 → Int32 → Int32 → Mem → Option Mem) (hK_settle : ∀ {β : Type}, DenOK E l D yK_settle prog_13_method_91_code 5 none false (dK_settle (β := β) rK_settle)) : AllOK E l (D + 1) "FreeLancesModel" prog_13_method_91_code 5 none outV (cK_settle rK_settle) := by
  refine ak (ok_aload_n (k := 0) rfl (by decide +kernel)) ?_
  refine ak (ok_get (k := 15) ck11 kd40 (by decide) (fun _ _ _ => rfl) (fun _ _ _ _ _ => trivial) tw1257 (by decide +kernel)) ?_
  refine ak (ok_if_lt (off := 12) (by decide) (by decide +kernel)) ?_
  refine ak (ok_iload_n (k := 3) rfl (by decide +kernel)) ?_
  refine ak (ok_aload_n (k := 0) rfl (by decide +kernel)) ?_
  refine ak (ok_get (k := 15) ck11 kd40 (by decide) (fun _ _ _ => rfl) (fun _ _ _ _ _ => trivial) tw1257 (by decide +kernel)) ?_
  refine ak (ok_icmp_lt (off := 4) (by decide) (by decide +kernel)) ?_
  refine ak (ok_return rfl (by decide +kernel)) ?_
  refine ak (ok_iload_n (k := 1) rfl (by decide +kernel)) ?_
  refine ak (ok_aload_n (k := 0) rfl (by decide +kernel)) ?_
  refine ak (ok_get (k := 0) ck11 kd40 (by decide) (fun _ _ _ => rfl) (vf_40_0 hsd) tw1242 (by decide +kernel)) ?_
  refine ak (ok_iconst (n := 2) (by decide) (by decide +kernel)) ?_
  refine ak (ok_iald kd41 (by decide) (by decide +kernel)) ?_
  refine ak (ok_icmp_ne (off := 38) (by decide) (by decide +kernel)) ?_
  refine ak (ok_aload_n (k := 0) rfl (by decide +kernel)) ?_
  refine ak (ok_iload_n (k := 3) rfl (by decide +kernel)) ?_
  refine ak (ok_put (k := 15) ck11 kd40 (by decide) (fun _ _ _ => rfl) rfl rfl (by decide) tw1257 (by decide +kernel)) ?_
  refine ak (ok_iconst (n := 0) (by decide) (by decide +kernel)) ?_
  refine ak (ok_istore (by decide) (by decide +kernel)) ?_
  refine ak (ok_iload (by decide +kernel)) ?_
  refine ak (ok_iload_n (k := 1) rfl (by decide +kernel)) ?_
  refine ak (ok_icmp_ge (off := 23) (by decide) (by decide +kernel)) ?_
  refine ak (ok_aload_n (k := 0) rfl (by decide +kernel)) ?_
  refine ak (ok_get (k := 14) ck11 kd40 (by decide) (fun _ _ _ => rfl) (vf_40_14 hsd) tw1256 (by decide +kernel)) ?_
  refine ak (ok_iload (by decide +kernel)) ?_
  refine ak (ok_aload_n (k := 0) rfl (by decide +kernel)) ?_
  refine ak (ok_get (k := 13) ck11 kd40 (by decide) (fun _ _ _ => rfl) (vf_40_13 hsd) tw1255 (by decide +kernel)) ?_
  refine ak (ok_iload (by decide +kernel)) ?_
  refine ak (ok_iald kd54 (by decide) (by decide +kernel)) ?_
  refine ak (ok_iast kd55 (by decide) (by decide) (by decide +kernel)) ?_
  refine ak (ok_iinc (n := 1) (by decide) (by decide) (by decide +kernel)) ?_
  refine ak (ok_goto (off := (-23)) (by decide) (by decide +kernel)) ?_
  refine ak (ok_return rfl (by decide +kernel)) ?_
  refine ak (ok_iconst (n := 0) (by decide) (by decide +kernel)) ?_
  refine ak (ok_istore (by decide) (by decide +kernel)) ?_
  refine ak (ok_iload (by decide +kernel)) ?_
  refine ak (ok_aload_n (k := 0) rfl (by decide +kernel)) ?_
  refine ak (ok_get (k := 0) ck11 kd40 (by decide) (fun _ _ _ => rfl) (vf_40_0 hsd) tw1242 (by decide +kernel)) ?_
  refine ak (ok_iconst (n := 0) (by decide) (by decide +kernel)) ?_
  refine ak (ok_iald kd41 (by decide) (by decide +kernel)) ?_
  refine ak (ok_icmp_ge (off := 61) (by decide) (by decide +kernel)) ?_
  refine ak (ok_iload_n (k := 2) rfl (by decide +kernel)) ?_
  refine ak (ok_iload (by decide +kernel)) ?_
  refine ak (ok_ishr (by decide +kernel)) ?_
  refine ak (ok_iconst (n := 1) (by decide) (by decide +kernel)) ?_
  refine ak (ok_iand (by decide +kernel)) ?_
  refine ak (ok_iconst (n := 1) (by decide) (by decide +kernel)) ?_
  refine ak (ok_icmp_ne (off := 6) (by decide) (by decide +kernel)) ?_
  refine ak (ok_goto (off := 42) (by decide) (by decide +kernel)) ?_
  refine ak (ok_aload_n (k := 0) rfl (by decide +kernel)) ?_
  refine ak (ok_get (k := 13) ck11 kd40 (by decide) (fun _ _ _ => rfl) (vf_40_13 hsd) tw1255 (by decide +kernel)) ?_
  refine ak (ok_iload_n (k := 1) rfl (by decide +kernel)) ?_
  refine ak (ok_iload (by decide +kernel)) ?_
  refine ak (ok_iast kd54 (by decide) (by decide) (by decide +kernel)) ?_
  refine ak (ok_aload_n (k := 0) rfl (by decide +kernel)) ?_
  refine ak (ok_iload_n (k := 1) rfl (by decide +kernel)) ?_
  refine ak (ok_iconst (n := 1) (by decide) (by decide +kernel)) ?_
  refine ak (ok_iadd (by decide +kernel)) ?_
  refine ak (ok_iload_n (k := 2) rfl (by decide +kernel)) ?_
  refine ak (ok_iconst (n := 1) (by decide) (by decide +kernel)) ?_
  refine ak (ok_iload (by decide +kernel)) ?_
  refine ak (ok_ishl (by decide +kernel)) ?_
  refine ak (ok_ior (by decide +kernel)) ?_
  refine ak (ok_iload_n (k := 3) rfl (by decide +kernel)) ?_
  refine ak (ok_aload_n (k := 0) rfl (by decide +kernel)) ?_
  refine ak (ok_get (k := 0) ck11 kd40 (by decide) (fun _ _ _ => rfl) (vf_40_0 hsd) tw1242 (by decide +kernel)) ?_
  refine ak (ok_sipush (n := 1392) (by decide) (by decide +kernel)) ?_
  refine ak (ok_bipush (n := 8) (by decide) (by decide +kernel)) ?_
  refine ak (ok_iload_n (k := 1) rfl (by decide +kernel)) ?_
  refine ak (ok_imul (by decide +kernel)) ?_
  refine ak (ok_iadd (by decide +kernel)) ?_
  refine ak (ok_iload (by decide +kernel)) ?_
  refine ak (ok_iadd (by decide +kernel)) ?_
  refine ak (ok_iald kd41 (by decide) (by decide +kernel)) ?_
  refine ak (ok_iadd (by decide +kernel)) ?_
  refine ak (ok_invV (r := 40) hK_settle (qK_settle rK_settle) ck11 kd40 iK_settle tw1685 tw79 (by omega) tw1683 (by decide +kernel)) ?_
  refine ak (ok_iinc (n := 1) (by decide) (by decide) (by decide +kernel)) ?_
  refine ak (ok_goto (off := (-66)) (by decide) (by decide +kernel)) ?_
  refine ak (ok_return rfl (by decide +kernel)) ?_
  exact trivial
def KK_settle_64 (j64 : Int32 → Int32 → Int32 → Int32 → Mem → Option Mem) : Jm Mem := fun t als st M =>
  if t = 64 then (match als, st with
  | [.inr (.inr (.inl (al0, bl0, cl0))), .inl x1, .inl x2, .inl x3, .inl x4], [] => if al0 = 40 ∧ bl0 = 0 ∧ cl0 = 0 then j64 x1 x2 x3 x4 M else none
  | _, _ => none) else
  none
set_option maxRecDepth 1000000 in
theorem eK_settle_64 (rK_settle : Int32 → Int32 → Int32 → Mem → Option Mem) (j64 : Int32 → Int32 → Int32 → Int32 → Mem → Option Mem) (x1 : Int32) (x2 : Int32) (x3 : Int32) (x4 : Int32) (M : Mem) : run (cK_settle rK_settle) (KK_settle_64 j64) rtV 400 (seek (cK_settle rK_settle) 64) [aR (40, 0, 0), aI x1, aI x2, aI x3, aI x4] [] M = mK_settle_64b rK_settle j64 x1 x2 x3 x4 M := id rfl
theorem lK_settle_64 {E : EV} {l : Launch} {p : Program} {e : Env} {s : State} {m : MethodId} {args : Array Value} {below : List Frame} {meth : Method} {c : Code} {D : Nat} (rK_settle : Int32 → Int32 → Int32 → Mem → Option Mem) (A : AllOK E l (D + 1) "FreeLancesModel" prog_13_method_91_code 5 none outV (cK_settle rK_settle)) (C : Cx E p s m args meth c "FreeLancesModel" prog_13_method_91_code 5 none) : ∀ (n : Nat), ∀ (x1 : Int32) (x2 : Int32) (x3 : Int32) (x4 : Int32) (M : Mem) (res : Mem), mK_settle_64 rK_settle n x1 x2 x3 x4 M = some res → Wm E p l e (D + 1) s m args below meth c 5 64 [aR (40, 0, 0), aI x1, aI x2, aI x3, aI x4] [] M (outV res).1 (outV res).2 := by
  intro n
  induction n with
  | zero => intro _ _ _ _ M res h; cases h
  | succ n ih =>
    intro x1 x2 x3 x4 M res h
    refine run_at C A rfl hrtV (n := 400) ((eK_settle_64 rK_settle (mK_settle_64 rK_settle n) x1 x2 x3 x4 M).trans h) ?_
    intro t als st M hk
    unfold KK_settle_64 at hk
    split at hk
    · rename_i ht
      subst ht
      split at hk
      · split at hk
        · rename_i hc
          obtain ⟨rfl, rfl, rfl⟩ := hc
          exact ih _ _ _ _ _ _ hk
        · cases hk
      · cases hk
    cases hk
def KK_settle_34 (j34 : Int32 → Int32 → Mem → Option Mem) : Jm Mem := fun t als st M =>
  if t = 34 then (match als, st with
  | [.inr (.inr (.inl (al0, bl0, cl0))), .inl x1, _, _, .inl x4], [] => if al0 = 40 ∧ bl0 = 0 ∧ cl0 = 0 then j34 x1 x4 M else none
  | _, _ => none) else
  none
set_option maxRecDepth 1000000 in
theorem eK_settle_34 (rK_settle : Int32 → Int32 → Int32 → Mem → Option Mem) (j34 : Int32 → Int32 → Mem → Option Mem) (x1 : Int32) (x4 : Int32) (M : Mem) (u2 u3 : AV) : run (cK_settle rK_settle) (KK_settle_34 j34) rtV 400 (seek (cK_settle rK_settle) 34) [aR (40, 0, 0), aI x1, u2, u3, aI x4] [] M = mK_settle_34b rK_settle j34 x1 x4 M := id rfl
theorem lK_settle_34 {E : EV} {l : Launch} {p : Program} {e : Env} {s : State} {m : MethodId} {args : Array Value} {below : List Frame} {meth : Method} {c : Code} {D : Nat} (rK_settle : Int32 → Int32 → Int32 → Mem → Option Mem) (A : AllOK E l (D + 1) "FreeLancesModel" prog_13_method_91_code 5 none outV (cK_settle rK_settle)) (C : Cx E p s m args meth c "FreeLancesModel" prog_13_method_91_code 5 none) : ∀ (n : Nat), ∀ (x1 : Int32) (x4 : Int32) (M : Mem) (res : Mem), mK_settle_34 rK_settle n x1 x4 M = some res → ∀ (u2 u3 : AV), Wm E p l e (D + 1) s m args below meth c 5 34 [aR (40, 0, 0), aI x1, u2, u3, aI x4] [] M (outV res).1 (outV res).2 := by
  intro n
  induction n with
  | zero => intro _ _ M res h; cases h
  | succ n ih =>
    intro x1 x4 M res h u2 u3
    refine run_at C A rfl hrtV (n := 400) ((eK_settle_34 rK_settle (mK_settle_34 rK_settle n) x1 x4 M u2 u3).trans h) ?_
    intro t als st M hk
    unfold KK_settle_34 at hk
    split at hk
    · rename_i ht
      subst ht
      split at hk
      · split at hk
        · rename_i hc
          obtain ⟨rfl, rfl, rfl⟩ := hc
          exact ih _ _ _ _ hk _ _
        · cases hk
      · cases hk
    cases hk
def KK_settle (j34 : Int32 → Int32 → Mem → Option Mem) (j64 : Int32 → Int32 → Int32 → Int32 → Mem → Option Mem) : Jm Mem := fun t als st M =>
  if t = 34 then (match als, st with
  | [.inr (.inr (.inl (al0, bl0, cl0))), .inl x1, _, _, .inl x4], [] => if al0 = 40 ∧ bl0 = 0 ∧ cl0 = 0 then j34 x1 x4 M else none
  | _, _ => none) else
  if t = 64 then (match als, st with
  | [.inr (.inr (.inl (al0, bl0, cl0))), .inl x1, .inl x2, .inl x3, .inl x4], [] => if al0 = 40 ∧ bl0 = 0 ∧ cl0 = 0 then j64 x1 x2 x3 x4 M else none
  | _, _ => none) else
  none
set_option maxRecDepth 1000000 in
theorem eK_settle (rK_settle : Int32 → Int32 → Int32 → Mem → Option Mem) (j34 : Int32 → Int32 → Mem → Option Mem) (j64 : Int32 → Int32 → Int32 → Int32 → Mem → Option Mem) (x1 : Int32) (x2 : Int32) (x3 : Int32) (M : Mem) : run (cK_settle rK_settle) (KK_settle j34 j64) rtV 400 (seek (cK_settle rK_settle) 0) [aR (40, 0, 0), aI x1, aI x2, aI x3, aU] [] M = mK_settleb rK_settle j34 j64 x1 x2 x3 M := id rfl
theorem lK_settle {E : EV} {l : Launch} {p : Program} {e : Env} {s : State} {m : MethodId} {args : Array Value} {below : List Frame} {meth : Method} {c : Code} {D : Nat} (rK_settle : Int32 → Int32 → Int32 → Mem → Option Mem) (A : AllOK E l (D + 1) "FreeLancesModel" prog_13_method_91_code 5 none outV (cK_settle rK_settle)) (C : Cx E p s m args meth c "FreeLancesModel" prog_13_method_91_code 5 none) : ∀ (x1 : Int32) (x2 : Int32) (x3 : Int32) (M : Mem) (res : Mem), mK_settle rK_settle x1 x2 x3 M = some res → Wm E p l e (D + 1) s m args below meth c 5 0 [aR (40, 0, 0), aI x1, aI x2, aI x3, aU] [] M (outV res).1 (outV res).2 := by
  intro x1 x2 x3 M res h
  refine run_at C A rfl hrtV (n := 400) ((eK_settle rK_settle (mK_settle_34 rK_settle fuel) (mK_settle_64 rK_settle fuel) x1 x2 x3 M).trans h) ?_
  intro t als st M hk
  unfold KK_settle at hk
  split at hk
  · rename_i ht
    subst ht
    split at hk
    · split at hk
      · rename_i hc
        obtain ⟨rfl, rfl, rfl⟩ := hc
        exact lK_settle_34 _ A C _ _ _ _ _ hk _ _
      · cases hk
    · cases hk
  split at hk
  · rename_i ht
    subst ht
    split at hk
    · split at hk
      · rename_i hc
        obtain ⟨rfl, rfl, rfl⟩ := hc
        exact lK_settle_64 _ A C _ _ _ _ _ _ _ hk
      · cases hk
    · cases hk
  cases hk
theorem wK_settle {E : EV} (hsd : E.2.2.2 = 1) (l : Launch) (D : Nat) (hD : 0 ≤ D) (rK_settle : Int32 → Int32 → Int32 → Mem → Option Mem) (hK_settle : ∀ {β : Type}, DenOK E l D yK_settle prog_13_method_91_code 5 none false (dK_settle (β := β) rK_settle)) (x1 : Int32) (x2 : Int32) (x3 : Int32) (M : Mem) (q : Mem) (hq : mK_settle rK_settle x1 x2 x3 M = some q) : Con E l (D + 1) yK_settle prog_13_method_91_code 5 none [aR (40, 0, 0), aI x1, aI x2, aI x3] M (outV q).1 (outV q).2 := by
  refine con_of iK_settle (Nat.le_of_ble_eq_true rfl) ?_
  intro p e s m args below meth c C
  exact lK_settle rK_settle (oK_settle hsd l D hD rK_settle hK_settle) C x1 x2 x3 M _ hq
theorem g3_con {E : EV} (hsd : E.2.2.2 = 1) (l : Launch) : ∀ n : Nat, (∀ (x1 : Int32) (x2 : Int32) (x3 : Int32) (M : Mem) (q : Mem), g3 n 0 x1 x2 x3 M = some q → Con E l (0 + n) yK_settle prog_13_method_91_code 5 none [aR (40, 0, 0), aI x1, aI x2, aI x3] M (outV q).1 (outV q).2) := by
  intro n
  induction n with
  | zero => exact (fun _ _ _ _ _ h => by cases h)
  | succ n ih =>
    have ih0 := ih
    exact (fun x1 x2 x3 M q h => wK_settle hsd l (0 + n) (by omega) _ (kK_settle ih0) x1 x2 x3 M q h)
theorem kxK_settle {E : EV} (hsd : E.2.2.2 = 1) (l : Launch) {β : Type} : DenOK E l 60 yK_settle prog_13_method_91_code 5 none false (dK_settle (β := β) xK_settle) := kK_settle (fun x1 x2 x3 M q h => (g3_con hsd l 60) x1 x2 x3 M q h)
