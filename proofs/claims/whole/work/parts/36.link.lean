/-! ===== FreeLancesModel.clashOf(II)I ===== -/
abbrev yK_clashOf : MethodName := ⟨"FreeLancesModel", "clashOf", "(II)I"⟩
theorem iK_clashOf : MI yK_clashOf prog_13_method_75_code 3 (some .int) 2 := ⟨tw1604, tw108, ⟨by decide, by decide⟩, by decide +kernel, by decide, by decide⟩
def cK_clashOf : List (Ent (Int32 × Mem)) := [(false, 0, 1, sLdA 0),
  (false, 1, 1, sLdI 1),
  (false, 2, 3, sInv 2 true dK_isContract),
  (false, 5, 3, sIfEq 57),
  (false, 8, 1, sLdA 0),
  (false, 9, 1, sLdI 2),
  (false, 10, 3, sInv 2 true dK_isContract),
  (false, 13, 3, sIfEq 57),
  (false, 16, 1, sLdA 0),
  (false, 17, 1, sLdI 1),
  (false, 18, 1, sC 1),
  (false, 19, 3, sInv 3 true dK_bond),
  (false, 22, 1, sLdA 0),
  (false, 23, 1, sLdI 2),
  (false, 24, 1, sC 1),
  (false, 25, 3, sInv 3 true dK_bond),
  (false, 28, 3, sCmpNe 55),
  (false, 31, 1, sLdA 0),
  (false, 32, 1, sLdI 1),
  (false, 33, 1, sC 5),
  (false, 34, 3, sInv 3 true dK_bond),
  (false, 37, 1, sLdA 0),
  (false, 38, 1, sLdI 2),
  (false, 39, 1, sC 5),
  (false, 40, 3, sInv 3 true dK_bond),
  (false, 43, 3, sCmpEq 55),
  (false, 46, 1, sLdA 0),
  (false, 47, 1, sLdI 1),
  (false, 48, 1, sLdI 2),
  (false, 49, 3, sInv 3 true dK_both),
  (false, 52, 3, sGoto 56),
  (false, 55, 1, sC (-1)),
  (false, 56, 1, sRetI),
  (false, 57, 1, sLdA 0),
  (false, 58, 1, sLdI 1),
  (false, 59, 3, sInv 2 true dK_isContract),
  (false, 62, 3, sIfEq 74),
  (false, 65, 1, sLdA 0),
  (false, 66, 1, sLdI 1),
  (false, 67, 1, sLdI 2),
  (false, 68, 3, sInv 3 true dK_clashes),
  (false, 71, 3, sGoto 92),
  (false, 74, 1, sLdA 0),
  (false, 75, 1, sLdI 2),
  (false, 76, 3, sInv 2 true dK_isContract),
  (false, 79, 3, sIfEq 91),
  (false, 82, 1, sLdA 0),
  (false, 83, 1, sLdI 2),
  (false, 84, 1, sLdI 1),
  (false, 85, 3, sInv 3 true dK_clashes),
  (false, 88, 3, sGoto 92),
  (false, 91, 1, sC (-1)),
  (false, 92, 1, sRetI)]
theorem oK_clashOf {E : EV} (hsd : E.2.2.2 = 1) (l : Launch) : AllOK E l 4 "FreeLancesModel" prog_13_method_75_code 3 (some .int) outI (cK_clashOf) := by
  refine ak (ok_aload_n (k := 0) rfl (by decide +kernel)) ?_
  refine ak (ok_iload_n (k := 1) rfl (by decide +kernel)) ?_
  refine ak (ok_invV (r := 40) (kK_isContract hsd l) qK_isContract ck11 kd40 iK_isContract tw1416 tw48 (by decide) tw1414 (by decide +kernel)) ?_
  refine ak (ok_if_eq (off := 52) (by decide) (by decide +kernel)) ?_
  refine ak (ok_aload_n (k := 0) rfl (by decide +kernel)) ?_
  refine ak (ok_iload_n (k := 2) rfl (by decide +kernel)) ?_
  refine ak (ok_invV (r := 40) (kK_isContract hsd l) qK_isContract ck11 kd40 iK_isContract tw1416 tw48 (by decide) tw1414 (by decide +kernel)) ?_
  refine ak (ok_if_eq (off := 44) (by decide) (by decide +kernel)) ?_
  refine ak (ok_aload_n (k := 0) rfl (by decide +kernel)) ?_
  refine ak (ok_iload_n (k := 1) rfl (by decide +kernel)) ?_
  refine ak (ok_iconst (n := 1) (by decide) (by decide +kernel)) ?_
  refine ak (ok_invV (r := 40) (kK_bond hsd l) qK_bond ck11 kd40 iK_bond tw1420 tw49 (by decide) tw1418 (by decide +kernel)) ?_
  refine ak (ok_aload_n (k := 0) rfl (by decide +kernel)) ?_
  refine ak (ok_iload_n (k := 2) rfl (by decide +kernel)) ?_
  refine ak (ok_iconst (n := 1) (by decide) (by decide +kernel)) ?_
  refine ak (ok_invV (r := 40) (kK_bond hsd l) qK_bond ck11 kd40 iK_bond tw1420 tw49 (by decide) tw1418 (by decide +kernel)) ?_
  refine ak (ok_icmp_ne (off := 27) (by decide) (by decide +kernel)) ?_
  refine ak (ok_aload_n (k := 0) rfl (by decide +kernel)) ?_
  refine ak (ok_iload_n (k := 1) rfl (by decide +kernel)) ?_
  refine ak (ok_iconst (n := 5) (by decide) (by decide +kernel)) ?_
  refine ak (ok_invV (r := 40) (kK_bond hsd l) qK_bond ck11 kd40 iK_bond tw1420 tw49 (by decide) tw1418 (by decide +kernel)) ?_
  refine ak (ok_aload_n (k := 0) rfl (by decide +kernel)) ?_
  refine ak (ok_iload_n (k := 2) rfl (by decide +kernel)) ?_
  refine ak (ok_iconst (n := 5) (by decide) (by decide +kernel)) ?_
  refine ak (ok_invV (r := 40) (kK_bond hsd l) qK_bond ck11 kd40 iK_bond tw1420 tw49 (by decide) tw1418 (by decide +kernel)) ?_
  refine ak (ok_icmp_eq (off := 12) (by decide) (by decide +kernel)) ?_
  refine ak (ok_aload_n (k := 0) rfl (by decide +kernel)) ?_
  refine ak (ok_iload_n (k := 1) rfl (by decide +kernel)) ?_
  refine ak (ok_iload_n (k := 2) rfl (by decide +kernel)) ?_
  refine ak (ok_invV (r := 40) (kK_both hsd l) qK_both ck11 kd40 iK_both tw1607 tw71 (by decide) tw1605 (by decide +kernel)) ?_
  refine ak (ok_goto (off := 4) (by decide) (by decide +kernel)) ?_
  refine ak (ok_iconst (n := (-1)) (by decide) (by decide +kernel)) ?_
  refine ak (ok_ireturn rfl (by decide +kernel)) ?_
  refine ak (ok_aload_n (k := 0) rfl (by decide +kernel)) ?_
  refine ak (ok_iload_n (k := 1) rfl (by decide +kernel)) ?_
  refine ak (ok_invV (r := 40) (kK_isContract hsd l) qK_isContract ck11 kd40 iK_isContract tw1416 tw48 (by decide) tw1414 (by decide +kernel)) ?_
  refine ak (ok_if_eq (off := 12) (by decide) (by decide +kernel)) ?_
  refine ak (ok_aload_n (k := 0) rfl (by decide +kernel)) ?_
  refine ak (ok_iload_n (k := 1) rfl (by decide +kernel)) ?_
  refine ak (ok_iload_n (k := 2) rfl (by decide +kernel)) ?_
  refine ak (ok_invV (r := 40) (kK_clashes hsd l) qK_clashes ck11 kd40 iK_clashes tw1614 tw72 (by decide) tw1612 (by decide +kernel)) ?_
  refine ak (ok_goto (off := 21) (by decide) (by decide +kernel)) ?_
  refine ak (ok_aload_n (k := 0) rfl (by decide +kernel)) ?_
  refine ak (ok_iload_n (k := 2) rfl (by decide +kernel)) ?_
  refine ak (ok_invV (r := 40) (kK_isContract hsd l) qK_isContract ck11 kd40 iK_isContract tw1416 tw48 (by decide) tw1414 (by decide +kernel)) ?_
  refine ak (ok_if_eq (off := 12) (by decide) (by decide +kernel)) ?_
  refine ak (ok_aload_n (k := 0) rfl (by decide +kernel)) ?_
  refine ak (ok_iload_n (k := 2) rfl (by decide +kernel)) ?_
  refine ak (ok_iload_n (k := 1) rfl (by decide +kernel)) ?_
  refine ak (ok_invV (r := 40) (kK_clashes hsd l) qK_clashes ck11 kd40 iK_clashes tw1614 tw72 (by decide) tw1612 (by decide +kernel)) ?_
  refine ak (ok_goto (off := 4) (by decide) (by decide +kernel)) ?_
  refine ak (ok_iconst (n := (-1)) (by decide) (by decide +kernel)) ?_
  refine ak (ok_ireturn rfl (by decide +kernel)) ?_
  exact trivial
set_option maxRecDepth 1000000 in
theorem eK_clashOf (x1 : Int32) (x2 : Int32) (M : Mem) : run (cK_clashOf) (fun _ _ _ _ => none) rtI 400 (seek (cK_clashOf) 0) [aR (40, 0, 0), aI x1, aI x2] [] M = mK_clashOf x1 x2 M := id rfl
theorem lK_clashOf {E : EV} {l : Launch} {p : Program} {e : Env} {s : State} {m : MethodId} {args : Array Value} {below : List Frame} {meth : Method} {c : Code} (A : AllOK E l 4 "FreeLancesModel" prog_13_method_75_code 3 (some .int) outI (cK_clashOf)) (C : Cx E p s m args meth c "FreeLancesModel" prog_13_method_75_code 3 (some .int)) : ∀ (x1 : Int32) (x2 : Int32) (M : Mem) (res : (Int32 × Mem)), mK_clashOf x1 x2 M = some res → Wm E p l e 4 s m args below meth c 3 0 [aR (40, 0, 0), aI x1, aI x2] [] M (outI res).1 (outI res).2 := by
  intro x1 x2 M res h
  refine run_at C A rfl hrtI (n := 400) ((eK_clashOf x1 x2 M).trans h) ?_
  intro t als st M hk; cases hk
def dK_clashOf {β : Type} : Den β := fun as M k => match as with
  | [.inr (.inr (.inl (al0, bl0, cl0))), .inl x1, .inl x2] => if al0 = 40 ∧ bl0 = 0 ∧ cl0 = 0 then (mK_clashOf x1 x2 M).bind fun q => k (aI q.1) q.2 else none
  | _ => none
theorem wK_clashOf {E : EV} (hsd : E.2.2.2 = 1) (l : Launch) (x1 : Int32) (x2 : Int32) (M : Mem) (q : (Int32 × Mem)) (hq : mK_clashOf x1 x2 M = some q) : Con E l 4 yK_clashOf prog_13_method_75_code 3 (some .int) [aR (40, 0, 0), aI x1, aI x2] M (outI q).1 (outI q).2 := by
  refine con_of iK_clashOf (Nat.le_of_ble_eq_true rfl) ?_
  intro p e s m args below meth c C
  exact lK_clashOf (oK_clashOf hsd l) C x1 x2 M _ hq
theorem kK_clashOf {E : EV} (hsd : E.2.2.2 = 1) (l : Launch) {β : Type} : DenOK E l 4 yK_clashOf prog_13_method_75_code 3 (some .int) true (dK_clashOf (β := β)) := by
  intro as M k res h
  unfold dK_clashOf at h
  split at h
  ·
    split at h
    · rename_i hc
      obtain ⟨rfl, rfl, rfl⟩ := hc
      obtain ⟨q, hq, hk⟩ := Option.bind_eq_some_iff.mp h
      exact ⟨aI q.1, q.2, hk, rfl, wK_clashOf hsd l _ _ M q hq⟩
    · cases h
  · cases h
theorem qK_clashOf {β : Type} : RecOK 40 (dK_clashOf (β := β)) := by
  intro as M k res h
  unfold dK_clashOf at h
  split at h
  ·
    split at h
    · rename_i hc
      obtain ⟨rfl, rfl, rfl⟩ := hc
      exact ⟨_, _, _, rfl⟩
    · cases h
  · cases h
/-! ===== FreeLancesModel.clash(II)I ===== -/
abbrev yK_clash : MethodName := ⟨"FreeLancesModel", "clash", "(II)I"⟩
theorem iK_clash : MI yK_clash prog_13_method_76_code 7 (some .int) 2 := ⟨tw1600, tw108, ⟨by decide, by decide⟩, by decide +kernel, by decide, by decide⟩
def cK_clash : List (Ent (Int32 × Mem)) := [(false, 0, 1, sLdI 1),
  (false, 1, 3, sIfLt 13),
  (false, 4, 1, sLdI 2),
  (false, 5, 1, sC 0),
  (false, 6, 1, sC 2),
  (false, 7, 3, sInv 3 true dK_in),
  (false, 10, 3, sIfNe 19),
  (false, 13, 1, sLdA 0),
  (false, 14, 1, sC 1),
  (false, 15, 3, sInv 2 true dK_finds),
  (false, 18, 1, sRetI),
  (false, 19, 1, sLdI 1),
  (false, 20, 1, sStI 3),
  (false, 21, 1, sC 0),
  (false, 22, 2, sStI 4),
  (true, 24, 2, sLdI 4),
  (false, 26, 1, sLdA 0),
  (false, 27, 3, sGet 40 (fun w i M => aR (41, 0, 0))),
  (false, 30, 1, sC 5),
  (false, 31, 1, sIald 41 1502),
  (false, 32, 3, sCmpGe 111),
  (false, 35, 2, sLdI 4),
  (false, 37, 1, sC 1),
  (false, 38, 1, sBin (fun x y => x + y)),
  (false, 39, 2, sStI 5),
  (true, 41, 2, sLdI 5),
  (false, 43, 1, sLdA 0),
  (false, 44, 3, sGet 40 (fun w i M => aR (41, 0, 0))),
  (false, 47, 1, sC 5),
  (false, 48, 1, sIald 41 1502),
  (false, 49, 3, sCmpGe 105),
  (false, 52, 1, sLdA 0),
  (false, 53, 2, sLdI 4),
  (false, 55, 2, sLdI 5),
  (false, 57, 3, sInv 3 true dK_clashOf),
  (false, 60, 2, sStI 6),
  (false, 62, 2, sLdI 6),
  (false, 64, 3, sIfGe 70),
  (false, 67, 3, sGoto 99),
  (false, 70, 1, sLdI 3),
  (false, 71, 3, sIfNe 96),
  (false, 74, 1, sLdI 2),
  (false, 75, 3, sIfNe 83),
  (false, 78, 2, sLdI 4),
  (false, 80, 3, sGoto 95),
  (false, 83, 1, sLdI 2),
  (false, 84, 1, sC 1),
  (false, 85, 3, sCmpNe 93),
  (false, 88, 2, sLdI 5),
  (false, 90, 3, sGoto 95),
  (false, 93, 2, sLdI 6),
  (false, 95, 1, sRetI),
  (false, 96, 3, sInc 3 (-1)),
  (false, 99, 3, sInc 5 1),
  (false, 102, 3, sGoto 41),
  (false, 105, 3, sInc 4 1),
  (false, 108, 3, sGoto 24),
  (false, 111, 1, sLdA 0),
  (false, 112, 1, sC 2),
  (false, 113, 3, sInv 2 true dK_finds),
  (false, 116, 1, sRetI)]
theorem oK_clash {E : EV} (hsd : E.2.2.2 = 1) (l : Launch) : AllOK E l 5 "FreeLancesModel" prog_13_method_76_code 7 (some .int) outI (cK_clash) := by
  refine ak (ok_iload_n (k := 1) rfl (by decide +kernel)) ?_
  refine ak (ok_if_lt (off := 12) (by decide) (by decide +kernel)) ?_
  refine ak (ok_iload_n (k := 2) rfl (by decide +kernel)) ?_
  refine ak (ok_iconst (n := 0) (by decide) (by decide +kernel)) ?_
  refine ak (ok_iconst (n := 2) (by decide) (by decide +kernel)) ?_
  refine ak (ok_invS (kK_in hsd l) iK_in tw1330 (by decide) tw1329 (by decide +kernel)) ?_
  refine ak (ok_if_ne (off := 9) (by decide) (by decide +kernel)) ?_
  refine ak (ok_aload_n (k := 0) rfl (by decide +kernel)) ?_
  refine ak (ok_iconst (n := 1) (by decide) (by decide +kernel)) ?_
  refine ak (ok_invV (r := 40) (kK_finds hsd l) qK_finds ck11 kd40 iK_finds tw1334 tw37 (by decide) tw1332 (by decide +kernel)) ?_
  refine ak (ok_ireturn rfl (by decide +kernel)) ?_
  refine ak (ok_iload_n (k := 1) rfl (by decide +kernel)) ?_
  refine ak (ok_istore_n (k := 3) rfl (by decide) (by decide +kernel)) ?_
  refine ak (ok_iconst (n := 0) (by decide) (by decide +kernel)) ?_
  refine ak (ok_istore (by decide) (by decide +kernel)) ?_
  refine ak (ok_iload (by decide +kernel)) ?_
  refine ak (ok_aload_n (k := 0) rfl (by decide +kernel)) ?_
  refine ak (ok_get (k := 0) ck11 kd40 (by decide) (fun _ _ _ => rfl) (vf_40_0 hsd) tw1242 (by decide +kernel)) ?_
  refine ak (ok_iconst (n := 5) (by decide) (by decide +kernel)) ?_
  refine ak (ok_iald kd41 (by decide) (by decide +kernel)) ?_
  refine ak (ok_icmp_ge (off := 79) (by decide) (by decide +kernel)) ?_
  refine ak (ok_iload (by decide +kernel)) ?_
  refine ak (ok_iconst (n := 1) (by decide) (by decide +kernel)) ?_
  refine ak (ok_iadd (by decide +kernel)) ?_
  refine ak (ok_istore (by decide) (by decide +kernel)) ?_
  refine ak (ok_iload (by decide +kernel)) ?_
  refine ak (ok_aload_n (k := 0) rfl (by decide +kernel)) ?_
  refine ak (ok_get (k := 0) ck11 kd40 (by decide) (fun _ _ _ => rfl) (vf_40_0 hsd) tw1242 (by decide +kernel)) ?_
  refine ak (ok_iconst (n := 5) (by decide) (by decide +kernel)) ?_
  refine ak (ok_iald kd41 (by decide) (by decide +kernel)) ?_
  refine ak (ok_icmp_ge (off := 56) (by decide) (by decide +kernel)) ?_
  refine ak (ok_aload_n (k := 0) rfl (by decide +kernel)) ?_
  refine ak (ok_iload (by decide +kernel)) ?_
  refine ak (ok_iload (by decide +kernel)) ?_
  refine ak (ok_invV (r := 40) (kK_clashOf hsd l) qK_clashOf ck11 kd40 iK_clashOf tw1603 tw70 (by decide) tw1601 (by decide +kernel)) ?_
  refine ak (ok_istore (by decide) (by decide +kernel)) ?_
  refine ak (ok_iload (by decide +kernel)) ?_
  refine ak (ok_if_ge (off := 6) (by decide) (by decide +kernel)) ?_
  refine ak (ok_goto (off := 32) (by decide) (by decide +kernel)) ?_
  refine ak (ok_iload_n (k := 3) rfl (by decide +kernel)) ?_
  refine ak (ok_if_ne (off := 25) (by decide) (by decide +kernel)) ?_
  refine ak (ok_iload_n (k := 2) rfl (by decide +kernel)) ?_
  refine ak (ok_if_ne (off := 8) (by decide) (by decide +kernel)) ?_
  refine ak (ok_iload (by decide +kernel)) ?_
  refine ak (ok_goto (off := 15) (by decide) (by decide +kernel)) ?_
  refine ak (ok_iload_n (k := 2) rfl (by decide +kernel)) ?_
  refine ak (ok_iconst (n := 1) (by decide) (by decide +kernel)) ?_
  refine ak (ok_icmp_ne (off := 8) (by decide) (by decide +kernel)) ?_
  refine ak (ok_iload (by decide +kernel)) ?_
  refine ak (ok_goto (off := 5) (by decide) (by decide +kernel)) ?_
  refine ak (ok_iload (by decide +kernel)) ?_
  refine ak (ok_ireturn rfl (by decide +kernel)) ?_
  refine ak (ok_iinc (n := (-1)) (by decide) (by decide) (by decide +kernel)) ?_
  refine ak (ok_iinc (n := 1) (by decide) (by decide) (by decide +kernel)) ?_
  refine ak (ok_goto (off := (-61)) (by decide) (by decide +kernel)) ?_
  refine ak (ok_iinc (n := 1) (by decide) (by decide) (by decide +kernel)) ?_
  refine ak (ok_goto (off := (-84)) (by decide) (by decide +kernel)) ?_
  refine ak (ok_aload_n (k := 0) rfl (by decide +kernel)) ?_
  refine ak (ok_iconst (n := 2) (by decide) (by decide +kernel)) ?_
  refine ak (ok_invV (r := 40) (kK_finds hsd l) qK_finds ck11 kd40 iK_finds tw1334 tw37 (by decide) tw1332 (by decide +kernel)) ?_
  refine ak (ok_ireturn rfl (by decide +kernel)) ?_
  exact trivial
def KK_clash_41 (j24 : Int32 → Int32 → Int32 → Mem → Option (Int32 × Mem)) (j41 : Int32 → Int32 → Int32 → Int32 → Mem → Option (Int32 × Mem)) : Jm (Int32 × Mem) := fun t als st M =>
  if t = 24 then (match als, st with
  | [.inr (.inr (.inl (al0, bl0, cl0))), _, .inl x2, .inl x3, .inl x4, _, _], [] => if al0 = 40 ∧ bl0 = 0 ∧ cl0 = 0 then j24 x2 x3 x4 M else none
  | _, _ => none) else
  if t = 41 then (match als, st with
  | [.inr (.inr (.inl (al0, bl0, cl0))), _, .inl x2, .inl x3, .inl x4, .inl x5, _], [] => if al0 = 40 ∧ bl0 = 0 ∧ cl0 = 0 then j41 x2 x3 x4 x5 M else none
  | _, _ => none) else
  none
set_option maxRecDepth 1000000 in
theorem eK_clash_41 (j24 : Int32 → Int32 → Int32 → Mem → Option (Int32 × Mem)) (j41 : Int32 → Int32 → Int32 → Int32 → Mem → Option (Int32 × Mem)) (x2 : Int32) (x3 : Int32) (x4 : Int32) (x5 : Int32) (M : Mem) (u1 u6 : AV) : run (cK_clash) (KK_clash_41 j24 j41) rtI 400 (seek (cK_clash) 41) [aR (40, 0, 0), u1, aI x2, aI x3, aI x4, aI x5, u6] [] M = mK_clash_41b j24 j41 x2 x3 x4 x5 M := id rfl
theorem lK_clash_41 {E : EV} {l : Launch} {p : Program} {e : Env} {s : State} {m : MethodId} {args : Array Value} {below : List Frame} {meth : Method} {c : Code} (A : AllOK E l 5 "FreeLancesModel" prog_13_method_76_code 7 (some .int) outI (cK_clash)) (C : Cx E p s m args meth c "FreeLancesModel" prog_13_method_76_code 7 (some .int)) {r24 : Int32 → Int32 → Int32 → Mem → Option (Int32 × Mem)} (H24 : ∀ (x2 : Int32) (x3 : Int32) (x4 : Int32) (M : Mem) (res : (Int32 × Mem)), r24 x2 x3 x4 M = some res → ∀ (u1 u5 u6 : AV), Wm E p l e 5 s m args below meth c 7 24 [aR (40, 0, 0), u1, aI x2, aI x3, aI x4, u5, u6] [] M (outI res).1 (outI res).2) : ∀ (n : Nat), ∀ (x2 : Int32) (x3 : Int32) (x4 : Int32) (x5 : Int32) (M : Mem) (res : (Int32 × Mem)), mK_clash_41 r24 n x2 x3 x4 x5 M = some res → ∀ (u1 u6 : AV), Wm E p l e 5 s m args below meth c 7 41 [aR (40, 0, 0), u1, aI x2, aI x3, aI x4, aI x5, u6] [] M (outI res).1 (outI res).2 := by
  intro n
  induction n with
  | zero => intro _ _ _ _ M res h; cases h
  | succ n ih =>
    intro x2 x3 x4 x5 M res h u1 u6
    refine run_at C A rfl hrtI (n := 400) ((eK_clash_41 r24 (mK_clash_41 r24 n) x2 x3 x4 x5 M u1 u6).trans h) ?_
    intro t als st M hk
    unfold KK_clash_41 at hk
    split at hk
    · rename_i ht
      subst ht
      split at hk
      · split at hk
        · rename_i hc
          obtain ⟨rfl, rfl, rfl⟩ := hc
          exact H24 _ _ _ _ _ hk _ _ _
        · cases hk
      · cases hk
    split at hk
    · rename_i ht
      subst ht
      split at hk
      · split at hk
        · rename_i hc
          obtain ⟨rfl, rfl, rfl⟩ := hc
          exact ih _ _ _ _ _ _ hk _ _
        · cases hk
      · cases hk
    cases hk
def KK_clash_24 (j41 : Int32 → Int32 → Int32 → Int32 → Mem → Option (Int32 × Mem)) : Jm (Int32 × Mem) := fun t als st M =>
  if t = 41 then (match als, st with
  | [.inr (.inr (.inl (al0, bl0, cl0))), _, .inl x2, .inl x3, .inl x4, .inl x5, _], [] => if al0 = 40 ∧ bl0 = 0 ∧ cl0 = 0 then j41 x2 x3 x4 x5 M else none
  | _, _ => none) else
  none
set_option maxRecDepth 1000000 in
theorem eK_clash_24 (j41 : Int32 → Int32 → Int32 → Int32 → Mem → Option (Int32 × Mem)) (x2 : Int32) (x3 : Int32) (x4 : Int32) (M : Mem) (u1 u5 u6 : AV) : run (cK_clash) (KK_clash_24 j41) rtI 400 (seek (cK_clash) 24) [aR (40, 0, 0), u1, aI x2, aI x3, aI x4, u5, u6] [] M = mK_clash_24b j41 x2 x3 x4 M := id rfl
theorem lK_clash_24 {E : EV} {l : Launch} {p : Program} {e : Env} {s : State} {m : MethodId} {args : Array Value} {below : List Frame} {meth : Method} {c : Code} (A : AllOK E l 5 "FreeLancesModel" prog_13_method_76_code 7 (some .int) outI (cK_clash)) (C : Cx E p s m args meth c "FreeLancesModel" prog_13_method_76_code 7 (some .int)) : ∀ (n : Nat), ∀ (x2 : Int32) (x3 : Int32) (x4 : Int32) (M : Mem) (res : (Int32 × Mem)), mK_clash_24 n x2 x3 x4 M = some res → ∀ (u1 u5 u6 : AV), Wm E p l e 5 s m args below meth c 7 24 [aR (40, 0, 0), u1, aI x2, aI x3, aI x4, u5, u6] [] M (outI res).1 (outI res).2 := by
  intro n
  induction n with
  | zero => intro _ _ _ M res h; cases h
  | succ n ih =>
    intro x2 x3 x4 M res h u1 u5 u6
    refine run_at C A rfl hrtI (n := 400) ((eK_clash_24 (mK_clash_41 (mK_clash_24 n) fuel) x2 x3 x4 M u1 u5 u6).trans h) ?_
    intro t als st M hk
    unfold KK_clash_24 at hk
    split at hk
    · rename_i ht
      subst ht
      split at hk
      · split at hk
        · rename_i hc
          obtain ⟨rfl, rfl, rfl⟩ := hc
          exact lK_clash_41 A C ih _ _ _ _ _ _ _ hk _ _
        · cases hk
      · cases hk
    cases hk
def KK_clash (j24 : Int32 → Int32 → Int32 → Mem → Option (Int32 × Mem)) : Jm (Int32 × Mem) := fun t als st M =>
  if t = 24 then (match als, st with
  | [.inr (.inr (.inl (al0, bl0, cl0))), _, .inl x2, .inl x3, .inl x4, _, _], [] => if al0 = 40 ∧ bl0 = 0 ∧ cl0 = 0 then j24 x2 x3 x4 M else none
  | _, _ => none) else
  none
set_option maxRecDepth 1000000 in
theorem eK_clash (j24 : Int32 → Int32 → Int32 → Mem → Option (Int32 × Mem)) (x1 : Int32) (x2 : Int32) (M : Mem) : run (cK_clash) (KK_clash j24) rtI 400 (seek (cK_clash) 0) [aR (40, 0, 0), aI x1, aI x2, aU, aU, aU, aU] [] M = mK_clashb j24 x1 x2 M := id rfl
theorem lK_clash {E : EV} {l : Launch} {p : Program} {e : Env} {s : State} {m : MethodId} {args : Array Value} {below : List Frame} {meth : Method} {c : Code} (A : AllOK E l 5 "FreeLancesModel" prog_13_method_76_code 7 (some .int) outI (cK_clash)) (C : Cx E p s m args meth c "FreeLancesModel" prog_13_method_76_code 7 (some .int)) : ∀ (x1 : Int32) (x2 : Int32) (M : Mem) (res : (Int32 × Mem)), mK_clash x1 x2 M = some res → Wm E p l e 5 s m args below meth c 7 0 [aR (40, 0, 0), aI x1, aI x2, aU, aU, aU, aU] [] M (outI res).1 (outI res).2 := by
  intro x1 x2 M res h
  refine run_at C A rfl hrtI (n := 400) ((eK_clash (mK_clash_24 fuel) x1 x2 M).trans h) ?_
  intro t als st M hk
  unfold KK_clash at hk
  split at hk
  · rename_i ht
    subst ht
    split at hk
    · split at hk
      · rename_i hc
        obtain ⟨rfl, rfl, rfl⟩ := hc
        exact lK_clash_24 A C _ _ _ _ _ _ hk _ _ _
      · cases hk
    · cases hk
  cases hk
def dK_clash {β : Type} : Den β := fun as M k => match as with
  | [.inr (.inr (.inl (al0, bl0, cl0))), .inl x1, .inl x2] => if al0 = 40 ∧ bl0 = 0 ∧ cl0 = 0 then (mK_clash x1 x2 M).bind fun q => k (aI q.1) q.2 else none
  | _ => none
theorem wK_clash {E : EV} (hsd : E.2.2.2 = 1) (l : Launch) (x1 : Int32) (x2 : Int32) (M : Mem) (q : (Int32 × Mem)) (hq : mK_clash x1 x2 M = some q) : Con E l 5 yK_clash prog_13_method_76_code 7 (some .int) [aR (40, 0, 0), aI x1, aI x2] M (outI q).1 (outI q).2 := by
  refine con_of iK_clash (Nat.le_of_ble_eq_true rfl) ?_
  intro p e s m args below meth c C
  exact lK_clash (oK_clash hsd l) C x1 x2 M _ hq
theorem kK_clash {E : EV} (hsd : E.2.2.2 = 1) (l : Launch) {β : Type} : DenOK E l 5 yK_clash prog_13_method_76_code 7 (some .int) true (dK_clash (β := β)) := by
  intro as M k res h
  unfold dK_clash at h
  split at h
  ·
    split at h
    · rename_i hc
      obtain ⟨rfl, rfl, rfl⟩ := hc
      obtain ⟨q, hq, hk⟩ := Option.bind_eq_some_iff.mp h
      exact ⟨aI q.1, q.2, hk, rfl, wK_clash hsd l _ _ M q hq⟩
    · cases h
  · cases h
theorem qK_clash {β : Type} : RecOK 40 (dK_clash (β := β)) := by
  intro as M k res h
  unfold dK_clash at h
  split at h
  ·
    split at h
    · rename_i hc
      obtain ⟨rfl, rfl, rfl⟩ := hc
      exact ⟨_, _, _, rfl⟩
    · cases h
  · cases h
/-! ===== FreeLancesModel.free(IZ)I ===== -/
abbrev yK_free : MethodName := ⟨"FreeLancesModel", "free", "(IZ)I"⟩
theorem iK_free : MI yK_free prog_13_method_77_code 8 (some .int) 2 := ⟨tw1619, tw108, ⟨by decide, by decide⟩, by decide +kernel, by decide, by decide⟩
def cK_free : List (Ent (Int32 × Mem)) := [(false, 0, 1, sLdA 0),
  (false, 1, 1, sLdI 1),
  (false, 2, 3, sInv 2 true dK_isCompany),
  (false, 5, 3, sIfNe 14),
  (false, 8, 1, sLdA 0),
  (false, 9, 1, sC 1),
  (false, 10, 3, sInv 2 true dK_finds),
  (false, 13, 1, sRetI),
  (false, 14, 1, sLdA 0),
  (false, 15, 3, sGet 40 (fun w i M => aR (41, 0, 0))),
  (false, 18, 2, sC 6),
  (false, 20, 1, sIald 41 1502),
  (false, 21, 1, sStI 3),
  (false, 22, 1, sC 1),
  (false, 23, 2, sStI 4),
  (true, 25, 2, sLdI 4),
  (false, 27, 3, sIfEq 173),
  (false, 30, 1, sLdI 3),
  (false, 31, 3, sC 3000),
  (false, 34, 3, sCmpGt 173),
  (false, 37, 1, sC 0),
  (false, 38, 2, sStI 4),
  (false, 40, 1, sC 0),
  (false, 41, 2, sStI 5),
  (true, 43, 2, sLdI 5),
  (false, 45, 1, sLdA 0),
  (false, 46, 3, sGet 40 (fun w i M => aR (41, 0, 0))),
  (false, 49, 1, sC 5),
  (false, 50, 1, sIald 41 1502),
  (false, 51, 3, sCmpGe 170),
  (false, 54, 1, sLdA 0),
  (false, 55, 2, sLdI 5),
  (false, 57, 3, sInv 2 true dK_isContract),
  (false, 60, 3, sIfEq 164),
  (false, 63, 1, sLdA 0),
  (false, 64, 2, sLdI 5),
  (false, 66, 1, sC 1),
  (false, 67, 3, sInv 3 true dK_bond),
  (false, 70, 1, sLdI 1),
  (false, 71, 3, sCmpEq 77),
  (false, 74, 3, sGoto 164),
  (false, 77, 1, sLdI 2),
  (false, 78, 3, sIfEq 113),
  (false, 81, 1, sLdA 0),
  (false, 82, 2, sLdI 5),
  (false, 84, 2, sC 11),
  (false, 86, 3, sInv 3 true dK_bond),
  (false, 89, 3, sIfNe 113),
  (false, 92, 1, sLdA 0),
  (false, 93, 2, sLdI 5),
  (false, 95, 1, sC 3),
  (false, 96, 3, sInv 3 true dK_bond),
  (false, 99, 1, sLdA 0),
  (false, 100, 3, sGet 40 (fun w i M => aR (41, 0, 0))),
  (false, 103, 2, sC 6),
  (false, 105, 1, sIald 41 1502),
  (false, 106, 3, sCmpLt 113),
  (false, 109, 1, sC 1),
  (false, 110, 3, sGoto 114),
  (false, 113, 1, sC 0),
  (true, 114, 2, sStI 6),
  (false, 116, 1, sLdA 0),
  (false, 117, 2, sLdI 5),
  (false, 119, 1, sC 3),
  (false, 120, 3, sInv 3 true dK_bond),
  (false, 123, 2, sLdI 6),
  (false, 125, 3, sIfEq 133),
  (false, 128, 2, sC 30),
  (false, 130, 3, sGoto 134),
  (false, 133, 1, sC 0),
  (false, 134, 1, sBin (fun x y => x + y)),
  (false, 135, 2, sStI 7),
  (false, 137, 1, sLdI 3),
  (false, 138, 1, sLdA 0),
  (false, 139, 2, sLdI 5),
  (false, 141, 1, sC 2),
  (false, 142, 3, sInv 3 true dK_bond),
  (false, 145, 2, sLdI 7),
  (false, 147, 3, sInv 3 true dK_in),
  (false, 150, 3, sIfNe 156),
  (false, 153, 3, sGoto 164),
  (false, 156, 2, sLdI 7),
  (false, 158, 1, sC 1),
  (false, 159, 1, sBin (fun x y => x + y)),
  (false, 160, 1, sStI 3),
  (false, 161, 1, sC 1),
  (false, 162, 2, sStI 4),
  (false, 164, 3, sInc 5 1),
  (false, 167, 3, sGoto 43),
  (false, 170, 3, sGoto 25),
  (false, 173, 1, sLdI 3),
  (false, 174, 3, sC 3000),
  (false, 177, 3, sCmpLe 188),
  (false, 180, 1, sLdA 0),
  (false, 181, 1, sC 2),
  (false, 182, 3, sInv 2 true dK_finds),
  (false, 185, 3, sGoto 189),
  (false, 188, 1, sLdI 3),
  (false, 189, 1, sRetI)]
theorem oK_free {E : EV} (hsd : E.2.2.2 = 1) (l : Launch) : AllOK E l 3 "FreeLancesModel" prog_13_method_77_code 8 (some .int) outI (cK_free) := by
  refine ak (ok_aload_n (k := 0) rfl (by decide +kernel)) ?_
  refine ak (ok_iload_n (k := 1) rfl (by decide +kernel)) ?_
  refine ak (ok_invV (r := 40) (kK_isCompany hsd l) qK_isCompany ck11 kd40 iK_isCompany tw1392 tw44 (by decide) tw1390 (by decide +kernel)) ?_
  refine ak (ok_if_ne (off := 9) (by decide) (by decide +kernel)) ?_
  refine ak (ok_aload_n (k := 0) rfl (by decide +kernel)) ?_
  refine ak (ok_iconst (n := 1) (by decide) (by decide +kernel)) ?_
  refine ak (ok_invV (r := 40) (kK_finds hsd l) qK_finds ck11 kd40 iK_finds tw1334 tw37 (by decide) tw1332 (by decide +kernel)) ?_
  refine ak (ok_ireturn rfl (by decide +kernel)) ?_
  refine ak (ok_aload_n (k := 0) rfl (by decide +kernel)) ?_
  refine ak (ok_get (k := 0) ck11 kd40 (by decide) (fun _ _ _ => rfl) (vf_40_0 hsd) tw1242 (by decide +kernel)) ?_
  refine ak (ok_bipush (n := 6) (by decide) (by decide +kernel)) ?_
  refine ak (ok_iald kd41 (by decide) (by decide +kernel)) ?_
  refine ak (ok_istore_n (k := 3) rfl (by decide) (by decide +kernel)) ?_
  refine ak (ok_iconst (n := 1) (by decide) (by decide +kernel)) ?_
  refine ak (ok_istore (by decide) (by decide +kernel)) ?_
  refine ak (ok_iload (by decide +kernel)) ?_
  refine ak (ok_if_eq (off := 146) (by decide) (by decide +kernel)) ?_
  refine ak (ok_iload_n (k := 3) rfl (by decide +kernel)) ?_
  refine ak (ok_sipush (n := 3000) (by decide) (by decide +kernel)) ?_
  refine ak (ok_icmp_gt (off := 139) (by decide) (by decide +kernel)) ?_
  refine ak (ok_iconst (n := 0) (by decide) (by decide +kernel)) ?_
  refine ak (ok_istore (by decide) (by decide +kernel)) ?_
  refine ak (ok_iconst (n := 0) (by decide) (by decide +kernel)) ?_
  refine ak (ok_istore (by decide) (by decide +kernel)) ?_
  refine ak (ok_iload (by decide +kernel)) ?_
  refine ak (ok_aload_n (k := 0) rfl (by decide +kernel)) ?_
  refine ak (ok_get (k := 0) ck11 kd40 (by decide) (fun _ _ _ => rfl) (vf_40_0 hsd) tw1242 (by decide +kernel)) ?_
  refine ak (ok_iconst (n := 5) (by decide) (by decide +kernel)) ?_
  refine ak (ok_iald kd41 (by decide) (by decide +kernel)) ?_
  refine ak (ok_icmp_ge (off := 119) (by decide) (by decide +kernel)) ?_
  refine ak (ok_aload_n (k := 0) rfl (by decide +kernel)) ?_
  refine ak (ok_iload (by decide +kernel)) ?_
  refine ak (ok_invV (r := 40) (kK_isContract hsd l) qK_isContract ck11 kd40 iK_isContract tw1416 tw48 (by decide) tw1414 (by decide +kernel)) ?_
  refine ak (ok_if_eq (off := 104) (by decide) (by decide +kernel)) ?_
  refine ak (ok_aload_n (k := 0) rfl (by decide +kernel)) ?_
  refine ak (ok_iload (by decide +kernel)) ?_
  refine ak (ok_iconst (n := 1) (by decide) (by decide +kernel)) ?_
  refine ak (ok_invV (r := 40) (kK_bond hsd l) qK_bond ck11 kd40 iK_bond tw1420 tw49 (by decide) tw1418 (by decide +kernel)) ?_
  refine ak (ok_iload_n (k := 1) rfl (by decide +kernel)) ?_
  refine ak (ok_icmp_eq (off := 6) (by decide) (by decide +kernel)) ?_
  refine ak (ok_goto (off := 90) (by decide) (by decide +kernel)) ?_
  refine ak (ok_iload_n (k := 2) rfl (by decide +kernel)) ?_
  refine ak (ok_if_eq (off := 35) (by decide) (by decide +kernel)) ?_
  refine ak (ok_aload_n (k := 0) rfl (by decide +kernel)) ?_
  refine ak (ok_iload (by decide +kernel)) ?_
  refine ak (ok_bipush (n := 11) (by decide) (by decide +kernel)) ?_
  refine ak (ok_invV (r := 40) (kK_bond hsd l) qK_bond ck11 kd40 iK_bond tw1420 tw49 (by decide) tw1418 (by decide +kernel)) ?_
  refine ak (ok_if_ne (off := 24) (by decide) (by decide +kernel)) ?_
  refine ak (ok_aload_n (k := 0) rfl (by decide +kernel)) ?_
  refine ak (ok_iload (by decide +kernel)) ?_
  refine ak (ok_iconst (n := 3) (by decide) (by decide +kernel)) ?_
  refine ak (ok_invV (r := 40) (kK_bond hsd l) qK_bond ck11 kd40 iK_bond tw1420 tw49 (by decide) tw1418 (by decide +kernel)) ?_
  refine ak (ok_aload_n (k := 0) rfl (by decide +kernel)) ?_
  refine ak (ok_get (k := 0) ck11 kd40 (by decide) (fun _ _ _ => rfl) (vf_40_0 hsd) tw1242 (by decide +kernel)) ?_
  refine ak (ok_bipush (n := 6) (by decide) (by decide +kernel)) ?_
  refine ak (ok_iald kd41 (by decide) (by decide +kernel)) ?_
  refine ak (ok_icmp_lt (off := 7) (by decide) (by decide +kernel)) ?_
  refine ak (ok_iconst (n := 1) (by decide) (by decide +kernel)) ?_
  refine ak (ok_goto (off := 4) (by decide) (by decide +kernel)) ?_
  refine ak (ok_iconst (n := 0) (by decide) (by decide +kernel)) ?_
  refine ak (ok_istore (by decide) (by decide +kernel)) ?_
  refine ak (ok_aload_n (k := 0) rfl (by decide +kernel)) ?_
  refine ak (ok_iload (by decide +kernel)) ?_
  refine ak (ok_iconst (n := 3) (by decide) (by decide +kernel)) ?_
  refine ak (ok_invV (r := 40) (kK_bond hsd l) qK_bond ck11 kd40 iK_bond tw1420 tw49 (by decide) tw1418 (by decide +kernel)) ?_
  refine ak (ok_iload (by decide +kernel)) ?_
  refine ak (ok_if_eq (off := 8) (by decide) (by decide +kernel)) ?_
  refine ak (ok_bipush (n := 30) (by decide) (by decide +kernel)) ?_
  refine ak (ok_goto (off := 4) (by decide) (by decide +kernel)) ?_
  refine ak (ok_iconst (n := 0) (by decide) (by decide +kernel)) ?_
  refine ak (ok_iadd (by decide +kernel)) ?_
  refine ak (ok_istore (by decide) (by decide +kernel)) ?_
  refine ak (ok_iload_n (k := 3) rfl (by decide +kernel)) ?_
  refine ak (ok_aload_n (k := 0) rfl (by decide +kernel)) ?_
  refine ak (ok_iload (by decide +kernel)) ?_
  refine ak (ok_iconst (n := 2) (by decide) (by decide +kernel)) ?_
  refine ak (ok_invV (r := 40) (kK_bond hsd l) qK_bond ck11 kd40 iK_bond tw1420 tw49 (by decide) tw1418 (by decide +kernel)) ?_
  refine ak (ok_iload (by decide +kernel)) ?_
  refine ak (ok_invS (kK_in hsd l) iK_in tw1330 (by decide) tw1329 (by decide +kernel)) ?_
  refine ak (ok_if_ne (off := 6) (by decide) (by decide +kernel)) ?_
  refine ak (ok_goto (off := 11) (by decide) (by decide +kernel)) ?_
  refine ak (ok_iload (by decide +kernel)) ?_
  refine ak (ok_iconst (n := 1) (by decide) (by decide +kernel)) ?_
  refine ak (ok_iadd (by decide +kernel)) ?_
  refine ak (ok_istore_n (k := 3) rfl (by decide) (by decide +kernel)) ?_
  refine ak (ok_iconst (n := 1) (by decide) (by decide +kernel)) ?_
  refine ak (ok_istore (by decide) (by decide +kernel)) ?_
  refine ak (ok_iinc (n := 1) (by decide) (by decide) (by decide +kernel)) ?_
  refine ak (ok_goto (off := (-124)) (by decide) (by decide +kernel)) ?_
  refine ak (ok_goto (off := (-145)) (by decide) (by decide +kernel)) ?_
  refine ak (ok_iload_n (k := 3) rfl (by decide +kernel)) ?_
  refine ak (ok_sipush (n := 3000) (by decide) (by decide +kernel)) ?_
  refine ak (ok_icmp_le (off := 11) (by decide) (by decide +kernel)) ?_
  refine ak (ok_aload_n (k := 0) rfl (by decide +kernel)) ?_
  refine ak (ok_iconst (n := 2) (by decide) (by decide +kernel)) ?_
  refine ak (ok_invV (r := 40) (kK_finds hsd l) qK_finds ck11 kd40 iK_finds tw1334 tw37 (by decide) tw1332 (by decide +kernel)) ?_
  refine ak (ok_goto (off := 4) (by decide) (by decide +kernel)) ?_
  refine ak (ok_iload_n (k := 3) rfl (by decide +kernel)) ?_
  refine ak (ok_ireturn rfl (by decide +kernel)) ?_
  exact trivial
def KK_free_114 (j43 : Int32 → Int32 → Int32 → Int32 → Int32 → Mem → Option (Int32 × Mem)) : Jm (Int32 × Mem) := fun t als st M =>
  if t = 43 then (match als, st with
  | [.inr (.inr (.inl (al0, bl0, cl0))), .inl x1, .inl x2, .inl x3, .inl x4, .inl x5, _, _], [] => if al0 = 40 ∧ bl0 = 0 ∧ cl0 = 0 then j43 x1 x2 x3 x4 x5 M else none
  | _, _ => none) else
  none
set_option maxRecDepth 1000000 in
theorem eK_free_114 (j43 : Int32 → Int32 → Int32 → Int32 → Int32 → Mem → Option (Int32 × Mem)) (x1 : Int32) (x2 : Int32) (x3 : Int32) (x4 : Int32) (x5 : Int32) (y0 : Int32) (M : Mem) (u6 u7 : AV) : run (cK_free) (KK_free_114 j43) rtI 400 (seek (cK_free) 114) [aR (40, 0, 0), aI x1, aI x2, aI x3, aI x4, aI x5, u6, u7] [aI y0] M = mK_free_114b j43 x1 x2 x3 x4 x5 y0 M := id rfl
theorem lK_free_114 {E : EV} {l : Launch} {p : Program} {e : Env} {s : State} {m : MethodId} {args : Array Value} {below : List Frame} {meth : Method} {c : Code} (A : AllOK E l 3 "FreeLancesModel" prog_13_method_77_code 8 (some .int) outI (cK_free)) (C : Cx E p s m args meth c "FreeLancesModel" prog_13_method_77_code 8 (some .int)) {r25 : Int32 → Int32 → Int32 → Int32 → Mem → Option (Int32 × Mem)} (H25 : ∀ (x1 : Int32) (x2 : Int32) (x3 : Int32) (x4 : Int32) (M : Mem) (res : (Int32 × Mem)), r25 x1 x2 x3 x4 M = some res → ∀ (u5 u6 u7 : AV), Wm E p l e 3 s m args below meth c 8 25 [aR (40, 0, 0), aI x1, aI x2, aI x3, aI x4, u5, u6, u7] [] M (outI res).1 (outI res).2) {r43 : Int32 → Int32 → Int32 → Int32 → Int32 → Mem → Option (Int32 × Mem)} (H43 : ∀ (x1 : Int32) (x2 : Int32) (x3 : Int32) (x4 : Int32) (x5 : Int32) (M : Mem) (res : (Int32 × Mem)), r43 x1 x2 x3 x4 x5 M = some res → ∀ (u6 u7 : AV), Wm E p l e 3 s m args below meth c 8 43 [aR (40, 0, 0), aI x1, aI x2, aI x3, aI x4, aI x5, u6, u7] [] M (outI res).1 (outI res).2) : ∀ (x1 : Int32) (x2 : Int32) (x3 : Int32) (x4 : Int32) (x5 : Int32) (y0 : Int32) (M : Mem) (res : (Int32 × Mem)), mK_free_114 r25 r43 x1 x2 x3 x4 x5 y0 M = some res → ∀ (u6 u7 : AV), Wm E p l e 3 s m args below meth c 8 114 [aR (40, 0, 0), aI x1, aI x2, aI x3, aI x4, aI x5, u6, u7] [aI y0] M (outI res).1 (outI res).2 := by
  intro x1 x2 x3 x4 x5 y0 M res h u6 u7
  refine run_at C A rfl hrtI (n := 400) ((eK_free_114 r43 x1 x2 x3 x4 x5 y0 M u6 u7).trans h) ?_
  intro t als st M hk
  unfold KK_free_114 at hk
  split at hk
  · rename_i ht
    subst ht
    split at hk
    · split at hk
      · rename_i hc
        obtain ⟨rfl, rfl, rfl⟩ := hc
        exact H43 _ _ _ _ _ _ _ hk _ _
      · cases hk
    · cases hk
  cases hk
def KK_free_43 (j25 : Int32 → Int32 → Int32 → Int32 → Mem → Option (Int32 × Mem)) (j43 : Int32 → Int32 → Int32 → Int32 → Int32 → Mem → Option (Int32 × Mem)) (j114 : Int32 → Int32 → Int32 → Int32 → Int32 → Int32 → Mem → Option (Int32 × Mem)) : Jm (Int32 × Mem) := fun t als st M =>
  if t = 25 then (match als, st with
  | [.inr (.inr (.inl (al0, bl0, cl0))), .inl x1, .inl x2, .inl x3, .inl x4, _, _, _], [] => if al0 = 40 ∧ bl0 = 0 ∧ cl0 = 0 then j25 x1 x2 x3 x4 M else none
  | _, _ => none) else
  if t = 43 then (match als, st with
  | [.inr (.inr (.inl (al0, bl0, cl0))), .inl x1, .inl x2, .inl x3, .inl x4, .inl x5, _, _], [] => if al0 = 40 ∧ bl0 = 0 ∧ cl0 = 0 then j43 x1 x2 x3 x4 x5 M else none
  | _, _ => none) else
  if t = 114 then (match als, st with
  | [.inr (.inr (.inl (al0, bl0, cl0))), .inl x1, .inl x2, .inl x3, .inl x4, .inl x5, _, _], [.inl y0] => if al0 = 40 ∧ bl0 = 0 ∧ cl0 = 0 then j114 x1 x2 x3 x4 x5 y0 M else none
  | _, _ => none) else
  none
set_option maxRecDepth 1000000 in
theorem eK_free_43 (j25 : Int32 → Int32 → Int32 → Int32 → Mem → Option (Int32 × Mem)) (j43 : Int32 → Int32 → Int32 → Int32 → Int32 → Mem → Option (Int32 × Mem)) (j114 : Int32 → Int32 → Int32 → Int32 → Int32 → Int32 → Mem → Option (Int32 × Mem)) (x1 : Int32) (x2 : Int32) (x3 : Int32) (x4 : Int32) (x5 : Int32) (M : Mem) (u6 u7 : AV) : run (cK_free) (KK_free_43 j25 j43 j114) rtI 400 (seek (cK_free) 43) [aR (40, 0, 0), aI x1, aI x2, aI x3, aI x4, aI x5, u6, u7] [] M = mK_free_43b j25 j43 j114 x1 x2 x3 x4 x5 M := id rfl
theorem lK_free_43 {E : EV} {l : Launch} {p : Program} {e : Env} {s : State} {m : MethodId} {args : Array Value} {below : List Frame} {meth : Method} {c : Code} (A : AllOK E l 3 "FreeLancesModel" prog_13_method_77_code 8 (some .int) outI (cK_free)) (C : Cx E p s m args meth c "FreeLancesModel" prog_13_method_77_code 8 (some .int)) {r25 : Int32 → Int32 → Int32 → Int32 → Mem → Option (Int32 × Mem)} (H25 : ∀ (x1 : Int32) (x2 : Int32) (x3 : Int32) (x4 : Int32) (M : Mem) (res : (Int32 × Mem)), r25 x1 x2 x3 x4 M = some res → ∀ (u5 u6 u7 : AV), Wm E p l e 3 s m args below meth c 8 25 [aR (40, 0, 0), aI x1, aI x2, aI x3, aI x4, u5, u6, u7] [] M (outI res).1 (outI res).2) : ∀ (n : Nat), ∀ (x1 : Int32) (x2 : Int32) (x3 : Int32) (x4 : Int32) (x5 : Int32) (M : Mem) (res : (Int32 × Mem)), mK_free_43 r25 n x1 x2 x3 x4 x5 M = some res → ∀ (u6 u7 : AV), Wm E p l e 3 s m args below meth c 8 43 [aR (40, 0, 0), aI x1, aI x2, aI x3, aI x4, aI x5, u6, u7] [] M (outI res).1 (outI res).2 := by
  intro n
  induction n with
  | zero => intro _ _ _ _ _ M res h; cases h
  | succ n ih =>
    intro x1 x2 x3 x4 x5 M res h u6 u7
    refine run_at C A rfl hrtI (n := 400) ((eK_free_43 r25 (mK_free_43 r25 n) (mK_free_114 r25 (mK_free_43 r25 n)) x1 x2 x3 x4 x5 M u6 u7).trans h) ?_
    intro t als st M hk
    unfold KK_free_43 at hk
    split at hk
    · rename_i ht
      subst ht
      split at hk
      · split at hk
        · rename_i hc
          obtain ⟨rfl, rfl, rfl⟩ := hc
          exact H25 _ _ _ _ _ _ hk _ _ _
        · cases hk
      · cases hk
    split at hk
    · rename_i ht
      subst ht
      split at hk
      · split at hk
        · rename_i hc
          obtain ⟨rfl, rfl, rfl⟩ := hc
          exact ih _ _ _ _ _ _ _ hk _ _
        · cases hk
      · cases hk
    split at hk
    · rename_i ht
      subst ht
      split at hk
      · split at hk
        · rename_i hc
          obtain ⟨rfl, rfl, rfl⟩ := hc
          exact lK_free_114 A C H25 ih _ _ _ _ _ _ _ _ hk _ _
        · cases hk
      · cases hk
    cases hk
def KK_free_25 (j43 : Int32 → Int32 → Int32 → Int32 → Int32 → Mem → Option (Int32 × Mem)) : Jm (Int32 × Mem) := fun t als st M =>
  if t = 43 then (match als, st with
  | [.inr (.inr (.inl (al0, bl0, cl0))), .inl x1, .inl x2, .inl x3, .inl x4, .inl x5, _, _], [] => if al0 = 40 ∧ bl0 = 0 ∧ cl0 = 0 then j43 x1 x2 x3 x4 x5 M else none
  | _, _ => none) else
  none
set_option maxRecDepth 1000000 in
theorem eK_free_25 (j43 : Int32 → Int32 → Int32 → Int32 → Int32 → Mem → Option (Int32 × Mem)) (x1 : Int32) (x2 : Int32) (x3 : Int32) (x4 : Int32) (M : Mem) (u5 u6 u7 : AV) : run (cK_free) (KK_free_25 j43) rtI 400 (seek (cK_free) 25) [aR (40, 0, 0), aI x1, aI x2, aI x3, aI x4, u5, u6, u7] [] M = mK_free_25b j43 x1 x2 x3 x4 M := id rfl
theorem lK_free_25 {E : EV} {l : Launch} {p : Program} {e : Env} {s : State} {m : MethodId} {args : Array Value} {below : List Frame} {meth : Method} {c : Code} (A : AllOK E l 3 "FreeLancesModel" prog_13_method_77_code 8 (some .int) outI (cK_free)) (C : Cx E p s m args meth c "FreeLancesModel" prog_13_method_77_code 8 (some .int)) : ∀ (n : Nat), ∀ (x1 : Int32) (x2 : Int32) (x3 : Int32) (x4 : Int32) (M : Mem) (res : (Int32 × Mem)), mK_free_25 n x1 x2 x3 x4 M = some res → ∀ (u5 u6 u7 : AV), Wm E p l e 3 s m args below meth c 8 25 [aR (40, 0, 0), aI x1, aI x2, aI x3, aI x4, u5, u6, u7] [] M (outI res).1 (outI res).2 := by
  intro n
  induction n with
  | zero => intro _ _ _ _ M res h; cases h
  | succ n ih =>
    intro x1 x2 x3 x4 M res h u5 u6 u7
    refine run_at C A rfl hrtI (n := 400) ((eK_free_25 (mK_free_43 (mK_free_25 n) fuel) x1 x2 x3 x4 M u5 u6 u7).trans h) ?_
    intro t als st M hk
    unfold KK_free_25 at hk
    split at hk
    · rename_i ht
      subst ht
      split at hk
      · split at hk
        · rename_i hc
          obtain ⟨rfl, rfl, rfl⟩ := hc
          exact lK_free_43 A C ih _ _ _ _ _ _ _ _ hk _ _
        · cases hk
      · cases hk
    cases hk
def KK_free (j25 : Int32 → Int32 → Int32 → Int32 → Mem → Option (Int32 × Mem)) : Jm (Int32 × Mem) := fun t als st M =>
  if t = 25 then (match als, st with
  | [.inr (.inr (.inl (al0, bl0, cl0))), .inl x1, .inl x2, .inl x3, .inl x4, _, _, _], [] => if al0 = 40 ∧ bl0 = 0 ∧ cl0 = 0 then j25 x1 x2 x3 x4 M else none
  | _, _ => none) else
  none
set_option maxRecDepth 1000000 in
theorem eK_free (j25 : Int32 → Int32 → Int32 → Int32 → Mem → Option (Int32 × Mem)) (x1 : Int32) (x2 : Int32) (M : Mem) : run (cK_free) (KK_free j25) rtI 400 (seek (cK_free) 0) [aR (40, 0, 0), aI x1, aI x2, aU, aU, aU, aU, aU] [] M = mK_freeb j25 x1 x2 M := id rfl
theorem lK_free {E : EV} {l : Launch} {p : Program} {e : Env} {s : State} {m : MethodId} {args : Array Value} {below : List Frame} {meth : Method} {c : Code} (A : AllOK E l 3 "FreeLancesModel" prog_13_method_77_code 8 (some .int) outI (cK_free)) (C : Cx E p s m args meth c "FreeLancesModel" prog_13_method_77_code 8 (some .int)) : ∀ (x1 : Int32) (x2 : Int32) (M : Mem) (res : (Int32 × Mem)), mK_free x1 x2 M = some res → Wm E p l e 3 s m args below meth c 8 0 [aR (40, 0, 0), aI x1, aI x2, aU, aU, aU, aU, aU] [] M (outI res).1 (outI res).2 := by
  intro x1 x2 M res h
  refine run_at C A rfl hrtI (n := 400) ((eK_free (mK_free_25 fuel) x1 x2 M).trans h) ?_
  intro t als st M hk
  unfold KK_free at hk
  split at hk
  · rename_i ht
    subst ht
    split at hk
    · split at hk
      · rename_i hc
        obtain ⟨rfl, rfl, rfl⟩ := hc
        exact lK_free_25 A C _ _ _ _ _ _ _ hk _ _ _
      · cases hk
    · cases hk
  cases hk
def dK_free {β : Type} : Den β := fun as M k => match as with
  | [.inr (.inr (.inl (al0, bl0, cl0))), .inl x1, .inl x2] => if al0 = 40 ∧ bl0 = 0 ∧ cl0 = 0 then (mK_free x1 x2 M).bind fun q => k (aI q.1) q.2 else none
  | _ => none
theorem wK_free {E : EV} (hsd : E.2.2.2 = 1) (l : Launch) (x1 : Int32) (x2 : Int32) (M : Mem) (q : (Int32 × Mem)) (hq : mK_free x1 x2 M = some q) : Con E l 3 yK_free prog_13_method_77_code 8 (some .int) [aR (40, 0, 0), aI x1, aI x2] M (outI q).1 (outI q).2 := by
  refine con_of iK_free (Nat.le_of_ble_eq_true rfl) ?_
  intro p e s m args below meth c C
  exact lK_free (oK_free hsd l) C x1 x2 M _ hq
theorem kK_free {E : EV} (hsd : E.2.2.2 = 1) (l : Launch) {β : Type} : DenOK E l 3 yK_free prog_13_method_77_code 8 (some .int) true (dK_free (β := β)) := by
  intro as M k res h
  unfold dK_free at h
  split at h
  ·
    split at h
    · rename_i hc
      obtain ⟨rfl, rfl, rfl⟩ := hc
      obtain ⟨q, hq, hk⟩ := Option.bind_eq_some_iff.mp h
      exact ⟨aI q.1, q.2, hk, rfl, wK_free hsd l _ _ M q hq⟩
    · cases h
  · cases h
theorem qK_free {β : Type} : RecOK 40 (dK_free (β := β)) := by
  intro as M k res h
  unfold dK_free at h
  split at h
  ·
    split at h
    · rename_i hc
      obtain ⟨rfl, rfl, rfl⟩ := hc
      exact ⟨_, _, _, rfl⟩
    · cases h
  · cases h
/-! ===== FreeLancesModel.isSheet(I)Z ===== -/
abbrev yK_isSheet : MethodName := ⟨"FreeLancesModel", "isSheet", "(I)Z"⟩
theorem iK_isSheet : MI yK_isSheet prog_13_method_115_code 1 (some .boolean) 1 := ⟨tw1626, tw108, ⟨by decide, by decide⟩, by decide +kernel, by decide, by decide⟩
def cK_isSheet : List (Ent (Int32 × Mem)) := [(false, 0, 1, sLdI 0),
  (false, 1, 1, sC 0),
  (false, 2, 1, sC 3),
  (false, 3, 3, sInv 3 true dK_in),
  (false, 6, 1, sRetZ)]
theorem oK_isSheet {E : EV} (hsd : E.2.2.2 = 1) (l : Launch) : AllOK E l 2 "FreeLancesModel" prog_13_method_115_code 1 (some .boolean) outI (cK_isSheet) := by
  refine ak (ok_iload_n (k := 0) rfl (by decide +kernel)) ?_
  refine ak (ok_iconst (n := 0) (by decide) (by decide +kernel)) ?_
  refine ak (ok_iconst (n := 3) (by decide) (by decide +kernel)) ?_
  refine ak (ok_invS (kK_in hsd l) iK_in tw1330 (by decide) tw1329 (by decide +kernel)) ?_
  refine ak (ok_zreturn rfl (by decide +kernel)) ?_
  exact trivial
set_option maxRecDepth 1000000 in
theorem eK_isSheet (x0 : Int32) (M : Mem) : run (cK_isSheet) (fun _ _ _ _ => none) rtI 400 (seek (cK_isSheet) 0) [aI x0] [] M = mK_isSheet x0 M := id rfl
theorem lK_isSheet {E : EV} {l : Launch} {p : Program} {e : Env} {s : State} {m : MethodId} {args : Array Value} {below : List Frame} {meth : Method} {c : Code} (A : AllOK E l 2 "FreeLancesModel" prog_13_method_115_code 1 (some .boolean) outI (cK_isSheet)) (C : Cx E p s m args meth c "FreeLancesModel" prog_13_method_115_code 1 (some .boolean)) : ∀ (x0 : Int32) (M : Mem) (res : (Int32 × Mem)), mK_isSheet x0 M = some res → Wm E p l e 2 s m args below meth c 1 0 [aI x0] [] M (outI res).1 (outI res).2 := by
  intro x0 M res h
  refine run_at C A rfl hrtI (n := 400) ((eK_isSheet x0 M).trans h) ?_
  intro t als st M hk; cases hk
def dK_isSheet {β : Type} : Den β := fun as M k => match as with
  | [.inl x0] => (mK_isSheet x0 M).bind fun q => k (aI q.1) q.2
  | _ => none
theorem wK_isSheet {E : EV} (hsd : E.2.2.2 = 1) (l : Launch) (x0 : Int32) (M : Mem) (q : (Int32 × Mem)) (hq : mK_isSheet x0 M = some q) : Con E l 2 yK_isSheet prog_13_method_115_code 1 (some .boolean) [aI x0] M (outI q).1 (outI q).2 := by
  refine con_of iK_isSheet (Nat.le_of_ble_eq_true rfl) ?_
  intro p e s m args below meth c C
  exact lK_isSheet (oK_isSheet hsd l) C x0 M _ hq
theorem kK_isSheet {E : EV} (hsd : E.2.2.2 = 1) (l : Launch) {β : Type} : DenOK E l 2 yK_isSheet prog_13_method_115_code 1 (some .boolean) true (dK_isSheet (β := β)) := by
  intro as M k res h
  unfold dK_isSheet at h
  split at h
  · obtain ⟨q, hq, hk⟩ := Option.bind_eq_some_iff.mp h
    exact ⟨aI q.1, q.2, hk, rfl, wK_isSheet hsd l _ M q hq⟩
  · cases h
/-! ===== FreeLancesModel.marked(II)I ===== -/
abbrev yK_marked : MethodName := ⟨"FreeLancesModel", "marked", "(II)I"⟩
theorem iK_marked : MI yK_marked prog_13_method_79_code 4 (some .int) 2 := ⟨tw1630, tw108, ⟨by decide, by decide⟩, by decide +kernel, by decide, by decide⟩
def cK_marked : List (Ent (Int32 × Mem)) := [(false, 0, 1, sC 0),
  (false, 1, 1, sStI 3),
  (true, 2, 1, sLdI 3),
  (false, 3, 1, sLdA 0),
  (false, 4, 3, sGet 40 (fun w i M => aR (41, 0, 0))),
  (false, 7, 1, sC 3),
  (false, 8, 1, sIald 41 1502),
  (false, 9, 3, sCmpGe 50),
  (false, 12, 1, sLdA 0),
  (false, 13, 1, sLdI 3),
  (false, 14, 1, sC 0),
  (false, 15, 3, sInv 3 true dK_its),
  (false, 18, 1, sLdI 1),
  (false, 19, 3, sCmpNe 44),
  (false, 22, 1, sLdA 0),
  (false, 23, 1, sLdI 3),
  (false, 24, 1, sC 1),
  (false, 25, 3, sInv 3 true dK_its),
  (false, 28, 1, sLdI 2),
  (false, 29, 3, sCmpNe 44),
  (false, 32, 1, sLdA 0),
  (false, 33, 1, sLdI 3),
  (false, 34, 1, sC 3),
  (false, 35, 3, sInv 3 true dK_its),
  (false, 38, 1, sC 1),
  (false, 39, 3, sCmpGt 44),
  (false, 42, 1, sLdI 3),
  (false, 43, 1, sRetI),
  (false, 44, 3, sInc 3 1),
  (false, 47, 3, sGoto 2),
  (false, 50, 1, sC (-1)),
  (false, 51, 1, sRetI)]
theorem oK_marked {E : EV} (hsd : E.2.2.2 = 1) (l : Launch) : AllOK E l 2 "FreeLancesModel" prog_13_method_79_code 4 (some .int) outI (cK_marked) := by
  refine ak (ok_iconst (n := 0) (by decide) (by decide +kernel)) ?_
  refine ak (ok_istore_n (k := 3) rfl (by decide) (by decide +kernel)) ?_
  refine ak (ok_iload_n (k := 3) rfl (by decide +kernel)) ?_
  refine ak (ok_aload_n (k := 0) rfl (by decide +kernel)) ?_
  refine ak (ok_get (k := 0) ck11 kd40 (by decide) (fun _ _ _ => rfl) (vf_40_0 hsd) tw1242 (by decide +kernel)) ?_
  refine ak (ok_iconst (n := 3) (by decide) (by decide +kernel)) ?_
  refine ak (ok_iald kd41 (by decide) (by decide +kernel)) ?_
  refine ak (ok_icmp_ge (off := 41) (by decide) (by decide +kernel)) ?_
  refine ak (ok_aload_n (k := 0) rfl (by decide +kernel)) ?_
  refine ak (ok_iload_n (k := 3) rfl (by decide +kernel)) ?_
  refine ak (ok_iconst (n := 0) (by decide) (by decide +kernel)) ?_
  refine ak (ok_invV (r := 40) (kK_its hsd l) qK_its ck11 kd40 iK_its tw1408 tw46 (by decide) tw1406 (by decide +kernel)) ?_
  refine ak (ok_iload_n (k := 1) rfl (by decide +kernel)) ?_
  refine ak (ok_icmp_ne (off := 25) (by decide) (by decide +kernel)) ?_
  refine ak (ok_aload_n (k := 0) rfl (by decide +kernel)) ?_
  refine ak (ok_iload_n (k := 3) rfl (by decide +kernel)) ?_
  refine ak (ok_iconst (n := 1) (by decide) (by decide +kernel)) ?_
  refine ak (ok_invV (r := 40) (kK_its hsd l) qK_its ck11 kd40 iK_its tw1408 tw46 (by decide) tw1406 (by decide +kernel)) ?_
  refine ak (ok_iload_n (k := 2) rfl (by decide +kernel)) ?_
  refine ak (ok_icmp_ne (off := 15) (by decide) (by decide +kernel)) ?_
  refine ak (ok_aload_n (k := 0) rfl (by decide +kernel)) ?_
  refine ak (ok_iload_n (k := 3) rfl (by decide +kernel)) ?_
  refine ak (ok_iconst (n := 3) (by decide) (by decide +kernel)) ?_
  refine ak (ok_invV (r := 40) (kK_its hsd l) qK_its ck11 kd40 iK_its tw1408 tw46 (by decide) tw1406 (by decide +kernel)) ?_
  refine ak (ok_iconst (n := 1) (by decide) (by decide +kernel)) ?_
  refine ak (ok_icmp_gt (off := 5) (by decide) (by decide +kernel)) ?_
  refine ak (ok_iload_n (k := 3) rfl (by decide +kernel)) ?_
  refine ak (ok_ireturn rfl (by decide +kernel)) ?_
  refine ak (ok_iinc (n := 1) (by decide) (by decide) (by decide +kernel)) ?_
  refine ak (ok_goto (off := (-45)) (by decide) (by decide +kernel)) ?_
  refine ak (ok_iconst (n := (-1)) (by decide) (by decide +kernel)) ?_
  refine ak (ok_ireturn rfl (by decide +kernel)) ?_
  exact trivial
def KK_marked_2 (j2 : Int32 → Int32 → Int32 → Mem → Option (Int32 × Mem)) : Jm (Int32 × Mem) := fun t als st M =>
  if t = 2 then (match als, st with
  | [.inr (.inr (.inl (al0, bl0, cl0))), .inl x1, .inl x2, .inl x3], [] => if al0 = 40 ∧ bl0 = 0 ∧ cl0 = 0 then j2 x1 x2 x3 M else none
  | _, _ => none) else
  none
set_option maxRecDepth 1000000 in
theorem eK_marked_2 (j2 : Int32 → Int32 → Int32 → Mem → Option (Int32 × Mem)) (x1 : Int32) (x2 : Int32) (x3 : Int32) (M : Mem) : run (cK_marked) (KK_marked_2 j2) rtI 400 (seek (cK_marked) 2) [aR (40, 0, 0), aI x1, aI x2, aI x3] [] M = mK_marked_2b j2 x1 x2 x3 M := id rfl
theorem lK_marked_2 {E : EV} {l : Launch} {p : Program} {e : Env} {s : State} {m : MethodId} {args : Array Value} {below : List Frame} {meth : Method} {c : Code} (A : AllOK E l 2 "FreeLancesModel" prog_13_method_79_code 4 (some .int) outI (cK_marked)) (C : Cx E p s m args meth c "FreeLancesModel" prog_13_method_79_code 4 (some .int)) : ∀ (n : Nat), ∀ (x1 : Int32) (x2 : Int32) (x3 : Int32) (M : Mem) (res : (Int32 × Mem)), mK_marked_2 n x1 x2 x3 M = some res → Wm E p l e 2 s m args below meth c 4 2 [aR (40, 0, 0), aI x1, aI x2, aI x3] [] M (outI res).1 (outI res).2 := by
  intro n
  induction n with
  | zero => intro _ _ _ M res h; cases h
  | succ n ih =>
    intro x1 x2 x3 M res h
    refine run_at C A rfl hrtI (n := 400) ((eK_marked_2 (mK_marked_2 n) x1 x2 x3 M).trans h) ?_
    intro t als st M hk
    unfold KK_marked_2 at hk
    split at hk
    · rename_i ht
      subst ht
      split at hk
      · split at hk
        · rename_i hc
          obtain ⟨rfl, rfl, rfl⟩ := hc
          exact ih _ _ _ _ _ hk
        · cases hk
      · cases hk
    cases hk
def KK_marked (j2 : Int32 → Int32 → Int32 → Mem → Option (Int32 × Mem)) : Jm (Int32 × Mem) := fun t als st M =>
  if t = 2 then (match als, st with
  | [.inr (.inr (.inl (al0, bl0, cl0))), .inl x1, .inl x2, .inl x3], [] => if al0 = 40 ∧ bl0 = 0 ∧ cl0 = 0 then j2 x1 x2 x3 M else none
  | _, _ => none) else
  none
set_option maxRecDepth 1000000 in
theorem eK_marked (j2 : Int32 → Int32 → Int32 → Mem → Option (Int32 × Mem)) (x1 : Int32) (x2 : Int32) (M : Mem) : run (cK_marked) (KK_marked j2) rtI 400 (seek (cK_marked) 0) [aR (40, 0, 0), aI x1, aI x2, aU] [] M = mK_markedb j2 x1 x2 M := id rfl
theorem lK_marked {E : EV} {l : Launch} {p : Program} {e : Env} {s : State} {m : MethodId} {args : Array Value} {below : List Frame} {meth : Method} {c : Code} (A : AllOK E l 2 "FreeLancesModel" prog_13_method_79_code 4 (some .int) outI (cK_marked)) (C : Cx E p s m args meth c "FreeLancesModel" prog_13_method_79_code 4 (some .int)) : ∀ (x1 : Int32) (x2 : Int32) (M : Mem) (res : (Int32 × Mem)), mK_marked x1 x2 M = some res → Wm E p l e 2 s m args below meth c 4 0 [aR (40, 0, 0), aI x1, aI x2, aU] [] M (outI res).1 (outI res).2 := by
  intro x1 x2 M res h
  refine run_at C A rfl hrtI (n := 400) ((eK_marked (mK_marked_2 fuel) x1 x2 M).trans h) ?_
  intro t als st M hk
  unfold KK_marked at hk
  split at hk
  · rename_i ht
    subst ht
    split at hk
    · split at hk
      · rename_i hc
        obtain ⟨rfl, rfl, rfl⟩ := hc
        exact lK_marked_2 A C _ _ _ _ _ _ hk
      · cases hk
    · cases hk
  cases hk
def dK_marked {β : Type} : Den β := fun as M k => match as with
  | [.inr (.inr (.inl (al0, bl0, cl0))), .inl x1, .inl x2] => if al0 = 40 ∧ bl0 = 0 ∧ cl0 = 0 then (mK_marked x1 x2 M).bind fun q => k (aI q.1) q.2 else none
  | _ => none
theorem wK_marked {E : EV} (hsd : E.2.2.2 = 1) (l : Launch) (x1 : Int32) (x2 : Int32) (M : Mem) (q : (Int32 × Mem)) (hq : mK_marked x1 x2 M = some q) : Con E l 2 yK_marked prog_13_method_79_code 4 (some .int) [aR (40, 0, 0), aI x1, aI x2] M (outI q).1 (outI q).2 := by
  refine con_of iK_marked (Nat.le_of_ble_eq_true rfl) ?_
  intro p e s m args below meth c C
  exact lK_marked (oK_marked hsd l) C x1 x2 M _ hq
theorem kK_marked {E : EV} (hsd : E.2.2.2 = 1) (l : Launch) {β : Type} : DenOK E l 2 yK_marked prog_13_method_79_code 4 (some .int) true (dK_marked (β := β)) := by
  intro as M k res h
  unfold dK_marked at h
  split at h
  ·
    split at h
    · rename_i hc
      obtain ⟨rfl, rfl, rfl⟩ := hc
      obtain ⟨q, hq, hk⟩ := Option.bind_eq_some_iff.mp h
      exact ⟨aI q.1, q.2, hk, rfl, wK_marked hsd l _ _ M q hq⟩
    · cases h
  · cases h
theorem qK_marked {β : Type} : RecOK 40 (dK_marked (β := β)) := by
  intro as M k res h
  unfold dK_marked at h
  split at h
  ·
    split at h
    · rename_i hc
      obtain ⟨rfl, rfl, rfl⟩ := hc
      exact ⟨_, _, _, rfl⟩
    · cases h
  · cases h
/-! ===== FreeLancesModel.counts(I)Z ===== -/
abbrev yK_counts : MethodName := ⟨"FreeLancesModel", "counts", "(I)Z"⟩
theorem iK_counts : MI yK_counts prog_13_method_78_code 3 (some .boolean) 1 := ⟨tw1634, tw108, ⟨by decide, by decide⟩, by decide +kernel, by decide, by decide⟩
def cK_counts : List (Ent (Int32 × Mem)) := [(false, 0, 1, sLdA 0),
  (false, 1, 1, sC 0),
  (false, 2, 1, sLdA 0),
  (false, 3, 3, sGet 40 (fun w i M => aR (41, 0, 0))),
  (false, 6, 2, sC 6),
  (false, 8, 1, sIald 41 1502),
  (false, 9, 3, sInv 3 true dK_inForce),
  (false, 12, 1, sStI 2),
  (false, 13, 1, sLdI 2),
  (false, 14, 3, sIfGe 34),
  (false, 17, 1, sLdA 0),
  (false, 18, 1, sLdI 1),
  (false, 19, 1, sC 3),
  (false, 20, 3, sInv 3 true dK_its),
  (false, 23, 3, sIfNe 30),
  (false, 26, 1, sC 1),
  (false, 27, 3, sGoto 65),
  (false, 30, 1, sC 0),
  (false, 31, 3, sGoto 65),
  (false, 34, 1, sLdA 0),
  (false, 35, 1, sLdI 2),
  (false, 36, 1, sLdA 0),
  (false, 37, 1, sLdI 1),
  (false, 38, 1, sC 2),
  (false, 39, 3, sInv 3 true dK_its),
  (false, 42, 1, sLdA 0),
  (false, 43, 1, sLdI 1),
  (false, 44, 1, sC 1),
  (false, 45, 3, sInv 3 true dK_its),
  (false, 48, 1, sLdA 0),
  (false, 49, 1, sLdI 1),
  (false, 50, 1, sC 3),
  (false, 51, 3, sInv 3 true dK_its),
  (false, 54, 3, sInv 5 true dK_comesTo),
  (false, 57, 3, sIfEq 64),
  (false, 60, 1, sC 1),
  (false, 61, 3, sGoto 65),
  (false, 64, 1, sC 0),
  (false, 65, 1, sRetZ)]
theorem oK_counts {E : EV} (hsd : E.2.2.2 = 1) (l : Launch) : AllOK E l 3 "FreeLancesModel" prog_13_method_78_code 3 (some .boolean) outI (cK_counts) := by
  refine ak (ok_aload_n (k := 0) rfl (by decide +kernel)) ?_
  refine ak (ok_iconst (n := 0) (by decide) (by decide +kernel)) ?_
  refine ak (ok_aload_n (k := 0) rfl (by decide +kernel)) ?_
  refine ak (ok_get (k := 0) ck11 kd40 (by decide) (fun _ _ _ => rfl) (vf_40_0 hsd) tw1242 (by decide +kernel)) ?_
  refine ak (ok_bipush (n := 6) (by decide) (by decide +kernel)) ?_
  refine ak (ok_iald kd41 (by decide) (by decide +kernel)) ?_
  refine ak (ok_invV (r := 40) (kK_inForce hsd l) qK_inForce ck11 kd40 iK_inForce tw1448 tw53 (by decide) tw1446 (by decide +kernel)) ?_
  refine ak (ok_istore_n (k := 2) rfl (by decide) (by decide +kernel)) ?_
  refine ak (ok_iload_n (k := 2) rfl (by decide +kernel)) ?_
  refine ak (ok_if_ge (off := 20) (by decide) (by decide +kernel)) ?_
  refine ak (ok_aload_n (k := 0) rfl (by decide +kernel)) ?_
  refine ak (ok_iload_n (k := 1) rfl (by decide +kernel)) ?_
  refine ak (ok_iconst (n := 3) (by decide) (by decide +kernel)) ?_
  refine ak (ok_invV (r := 40) (kK_its hsd l) qK_its ck11 kd40 iK_its tw1408 tw46 (by decide) tw1406 (by decide +kernel)) ?_
  refine ak (ok_if_ne (off := 7) (by decide) (by decide +kernel)) ?_
  refine ak (ok_iconst (n := 1) (by decide) (by decide +kernel)) ?_
  refine ak (ok_goto (off := 38) (by decide) (by decide +kernel)) ?_
  refine ak (ok_iconst (n := 0) (by decide) (by decide +kernel)) ?_
  refine ak (ok_goto (off := 34) (by decide) (by decide +kernel)) ?_
  refine ak (ok_aload_n (k := 0) rfl (by decide +kernel)) ?_
  refine ak (ok_iload_n (k := 2) rfl (by decide +kernel)) ?_
  refine ak (ok_aload_n (k := 0) rfl (by decide +kernel)) ?_
  refine ak (ok_iload_n (k := 1) rfl (by decide +kernel)) ?_
  refine ak (ok_iconst (n := 2) (by decide) (by decide +kernel)) ?_
  refine ak (ok_invV (r := 40) (kK_its hsd l) qK_its ck11 kd40 iK_its tw1408 tw46 (by decide) tw1406 (by decide +kernel)) ?_
  refine ak (ok_aload_n (k := 0) rfl (by decide +kernel)) ?_
  refine ak (ok_iload_n (k := 1) rfl (by decide +kernel)) ?_
  refine ak (ok_iconst (n := 1) (by decide) (by decide +kernel)) ?_
  refine ak (ok_invV (r := 40) (kK_its hsd l) qK_its ck11 kd40 iK_its tw1408 tw46 (by decide) tw1406 (by decide +kernel)) ?_
  refine ak (ok_aload_n (k := 0) rfl (by decide +kernel)) ?_
  refine ak (ok_iload_n (k := 1) rfl (by decide +kernel)) ?_
  refine ak (ok_iconst (n := 3) (by decide) (by decide +kernel)) ?_
  refine ak (ok_invV (r := 40) (kK_its hsd l) qK_its ck11 kd40 iK_its tw1408 tw46 (by decide) tw1406 (by decide +kernel)) ?_
  refine ak (ok_invV (r := 40) (kK_comesTo hsd l) qK_comesTo ck11 kd40 iK_comesTo tw1452 tw54 (by decide) tw1450 (by decide +kernel)) ?_
  refine ak (ok_if_eq (off := 7) (by decide) (by decide +kernel)) ?_
  refine ak (ok_iconst (n := 1) (by decide) (by decide +kernel)) ?_
  refine ak (ok_goto (off := 4) (by decide) (by decide +kernel)) ?_
  refine ak (ok_iconst (n := 0) (by decide) (by decide +kernel)) ?_
  refine ak (ok_zreturn rfl (by decide +kernel)) ?_
  exact trivial
set_option maxRecDepth 1000000 in
theorem eK_counts (x1 : Int32) (M : Mem) : run (cK_counts) (fun _ _ _ _ => none) rtI 400 (seek (cK_counts) 0) [aR (40, 0, 0), aI x1, aU] [] M = mK_counts x1 M := id rfl
theorem lK_counts {E : EV} {l : Launch} {p : Program} {e : Env} {s : State} {m : MethodId} {args : Array Value} {below : List Frame} {meth : Method} {c : Code} (A : AllOK E l 3 "FreeLancesModel" prog_13_method_78_code 3 (some .boolean) outI (cK_counts)) (C : Cx E p s m args meth c "FreeLancesModel" prog_13_method_78_code 3 (some .boolean)) : ∀ (x1 : Int32) (M : Mem) (res : (Int32 × Mem)), mK_counts x1 M = some res → Wm E p l e 3 s m args below meth c 3 0 [aR (40, 0, 0), aI x1, aU] [] M (outI res).1 (outI res).2 := by
  intro x1 M res h
  refine run_at C A rfl hrtI (n := 400) ((eK_counts x1 M).trans h) ?_
  intro t als st M hk; cases hk
def dK_counts {β : Type} : Den β := fun as M k => match as with
  | [.inr (.inr (.inl (al0, bl0, cl0))), .inl x1] => if al0 = 40 ∧ bl0 = 0 ∧ cl0 = 0 then (mK_counts x1 M).bind fun q => k (aI q.1) q.2 else none
  | _ => none
theorem wK_counts {E : EV} (hsd : E.2.2.2 = 1) (l : Launch) (x1 : Int32) (M : Mem) (q : (Int32 × Mem)) (hq : mK_counts x1 M = some q) : Con E l 3 yK_counts prog_13_method_78_code 3 (some .boolean) [aR (40, 0, 0), aI x1] M (outI q).1 (outI q).2 := by
  refine con_of iK_counts (Nat.le_of_ble_eq_true rfl) ?_
  intro p e s m args below meth c C
  exact lK_counts (oK_counts hsd l) C x1 M _ hq
theorem kK_counts {E : EV} (hsd : E.2.2.2 = 1) (l : Launch) {β : Type} : DenOK E l 3 yK_counts prog_13_method_78_code 3 (some .boolean) true (dK_counts (β := β)) := by
  intro as M k res h
  unfold dK_counts at h
  split at h
  ·
    split at h
    · rename_i hc
      obtain ⟨rfl, rfl, rfl⟩ := hc
      obtain ⟨q, hq, hk⟩ := Option.bind_eq_some_iff.mp h
      exact ⟨aI q.1, q.2, hk, rfl, wK_counts hsd l _ M q hq⟩
    · cases h
  · cases h
theorem qK_counts {β : Type} : RecOK 40 (dK_counts (β := β)) := by
  intro as M k res h
  unfold dK_counts at h
  split at h
  ·
    split at h
    · rename_i hc
      obtain ⟨rfl, rfl, rfl⟩ := hc
      exact ⟨_, _, _, rfl⟩
    · cases h
  · cases h
