/-! ===== FreeLancesModel.march(II)I ===== -/
abbrev yK_march : MethodName := ⟨"FreeLancesModel", "march", "(II)I"⟩
theorem iK_march : MI yK_march prog_13_method_26_code 4 (some .int) 2 := ⟨tw1389, tw108, ⟨by decide, by decide⟩, by decide +kernel, by decide, by decide⟩
def cK_march : List (Ent (Int32 × Mem)) := [(false, 0, 1, sLdA 0),
  (false, 1, 1, sLdI 1),
  (false, 2, 3, sInv 2 true dK_isCompany),
  (false, 5, 3, sIfEq 16),
  (false, 8, 1, sLdA 0),
  (false, 9, 1, sLdI 2),
  (false, 10, 3, sInv 2 true dK_isTown),
  (false, 13, 3, sIfNe 22),
  (false, 16, 1, sLdA 0),
  (false, 17, 1, sC 1),
  (false, 18, 3, sInv 2 true dK_finds),
  (false, 21, 1, sRetI),
  (false, 22, 1, sLdA 0),
  (false, 23, 1, sLdI 1),
  (false, 24, 1, sC 2),
  (false, 25, 3, sInv 3 true dK_own),
  (false, 28, 3, sIfLt 41),
  (false, 31, 1, sLdA 0),
  (false, 32, 1, sLdI 1),
  (false, 33, 1, sC 2),
  (false, 34, 3, sInv 3 true dK_own),
  (false, 37, 1, sLdI 2),
  (false, 38, 3, sCmpNe 47),
  (false, 41, 1, sLdA 0),
  (false, 42, 1, sC 3),
  (false, 43, 3, sInv 2 true dK_finds),
  (false, 46, 1, sRetI),
  (false, 47, 1, sLdA 0),
  (false, 48, 1, sLdA 0),
  (false, 49, 1, sLdI 1),
  (false, 50, 1, sC 2),
  (false, 51, 3, sInv 3 true dK_own),
  (false, 54, 1, sLdI 2),
  (false, 55, 3, sInv 3 true dK_farOf),
  (false, 58, 1, sStI 3),
  (false, 59, 1, sLdI 3),
  (false, 60, 3, sIfGe 69),
  (false, 63, 1, sLdA 0),
  (false, 64, 1, sC 2),
  (false, 65, 3, sInv 2 true dK_finds),
  (false, 68, 1, sRetI),
  (false, 69, 1, sLdA 0),
  (false, 70, 1, sLdI 1),
  (false, 71, 1, sC 2),
  (false, 72, 1, sC (-1)),
  (false, 73, 3, sInv 4 false dK_sets),
  (false, 76, 1, sLdA 0),
  (false, 77, 1, sLdI 1),
  (false, 78, 1, sC 3),
  (false, 79, 1, sLdI 2),
  (false, 80, 3, sInv 4 false dK_sets),
  (false, 83, 1, sLdA 0),
  (false, 84, 1, sLdI 1),
  (false, 85, 1, sC 4),
  (false, 86, 1, sLdA 0),
  (false, 87, 3, sGet 40 (fun w i M => aR (41, 0, 0))),
  (false, 90, 2, sC 6),
  (false, 92, 1, sIald 41 1502),
  (false, 93, 1, sLdI 3),
  (false, 94, 1, sBin (fun x y => x + y)),
  (false, 95, 3, sInv 4 false dK_sets),
  (false, 98, 1, sLdA 0),
  (false, 99, 3, sGet 40 (fun w i M => aR (41, 0, 0))),
  (false, 102, 2, sC 6),
  (false, 104, 1, sIald 41 1502),
  (false, 105, 1, sLdI 3),
  (false, 106, 1, sBin (fun x y => x + y)),
  (false, 107, 1, sRetI)]
theorem oK_march {E : EV} (hsd : E.2.2.2 = 1) (l : Launch) : AllOK E l 3 "FreeLancesModel" prog_13_method_26_code 4 (some .int) outI (cK_march) := by
  refine ak (ok_aload_n (k := 0) rfl (by decide +kernel)) ?_
  refine ak (ok_iload_n (k := 1) rfl (by decide +kernel)) ?_
  refine ak (ok_invV (r := 40) (kK_isCompany hsd l) qK_isCompany ck11 kd40 iK_isCompany tw1392 tw44 (by decide) tw1390 (by decide +kernel)) ?_
  refine ak (ok_if_eq (off := 11) (by decide) (by decide +kernel)) ?_
  refine ak (ok_aload_n (k := 0) rfl (by decide +kernel)) ?_
  refine ak (ok_iload_n (k := 2) rfl (by decide +kernel)) ?_
  refine ak (ok_invV (r := 40) (kK_isTown hsd l) qK_isTown ck11 kd40 iK_isTown tw1343 tw38 (by decide) tw1341 (by decide +kernel)) ?_
  refine ak (ok_if_ne (off := 9) (by decide) (by decide +kernel)) ?_
  refine ak (ok_aload_n (k := 0) rfl (by decide +kernel)) ?_
  refine ak (ok_iconst (n := 1) (by decide) (by decide +kernel)) ?_
  refine ak (ok_invV (r := 40) (kK_finds hsd l) qK_finds ck11 kd40 iK_finds tw1334 tw37 (by decide) tw1332 (by decide +kernel)) ?_
  refine ak (ok_ireturn rfl (by decide +kernel)) ?_
  refine ak (ok_aload_n (k := 0) rfl (by decide +kernel)) ?_
  refine ak (ok_iload_n (k := 1) rfl (by decide +kernel)) ?_
  refine ak (ok_iconst (n := 2) (by decide) (by decide +kernel)) ?_
  refine ak (ok_invV (r := 40) (kK_own hsd l) qK_own ck11 kd40 iK_own tw1363 tw41 (by decide) tw1361 (by decide +kernel)) ?_
  refine ak (ok_if_lt (off := 13) (by decide) (by decide +kernel)) ?_
  refine ak (ok_aload_n (k := 0) rfl (by decide +kernel)) ?_
  refine ak (ok_iload_n (k := 1) rfl (by decide +kernel)) ?_
  refine ak (ok_iconst (n := 2) (by decide) (by decide +kernel)) ?_
  refine ak (ok_invV (r := 40) (kK_own hsd l) qK_own ck11 kd40 iK_own tw1363 tw41 (by decide) tw1361 (by decide +kernel)) ?_
  refine ak (ok_iload_n (k := 2) rfl (by decide +kernel)) ?_
  refine ak (ok_icmp_ne (off := 9) (by decide) (by decide +kernel)) ?_
  refine ak (ok_aload_n (k := 0) rfl (by decide +kernel)) ?_
  refine ak (ok_iconst (n := 3) (by decide) (by decide +kernel)) ?_
  refine ak (ok_invV (r := 40) (kK_finds hsd l) qK_finds ck11 kd40 iK_finds tw1334 tw37 (by decide) tw1332 (by decide +kernel)) ?_
  refine ak (ok_ireturn rfl (by decide +kernel)) ?_
  refine ak (ok_aload_n (k := 0) rfl (by decide +kernel)) ?_
  refine ak (ok_aload_n (k := 0) rfl (by decide +kernel)) ?_
  refine ak (ok_iload_n (k := 1) rfl (by decide +kernel)) ?_
  refine ak (ok_iconst (n := 2) (by decide) (by decide +kernel)) ?_
  refine ak (ok_invV (r := 40) (kK_own hsd l) qK_own ck11 kd40 iK_own tw1363 tw41 (by decide) tw1361 (by decide +kernel)) ?_
  refine ak (ok_iload_n (k := 2) rfl (by decide +kernel)) ?_
  refine ak (ok_invV (r := 40) (kK_farOf hsd l) qK_farOf ck11 kd40 iK_farOf tw1351 tw39 (by decide) tw1349 (by decide +kernel)) ?_
  refine ak (ok_istore_n (k := 3) rfl (by decide) (by decide +kernel)) ?_
  refine ak (ok_iload_n (k := 3) rfl (by decide +kernel)) ?_
  refine ak (ok_if_ge (off := 9) (by decide) (by decide +kernel)) ?_
  refine ak (ok_aload_n (k := 0) rfl (by decide +kernel)) ?_
  refine ak (ok_iconst (n := 2) (by decide) (by decide +kernel)) ?_
  refine ak (ok_invV (r := 40) (kK_finds hsd l) qK_finds ck11 kd40 iK_finds tw1334 tw37 (by decide) tw1332 (by decide +kernel)) ?_
  refine ak (ok_ireturn rfl (by decide +kernel)) ?_
  refine ak (ok_aload_n (k := 0) rfl (by decide +kernel)) ?_
  refine ak (ok_iload_n (k := 1) rfl (by decide +kernel)) ?_
  refine ak (ok_iconst (n := 2) (by decide) (by decide +kernel)) ?_
  refine ak (ok_iconst (n := (-1)) (by decide) (by decide +kernel)) ?_
  refine ak (ok_invV (r := 40) (kK_sets hsd l) qK_sets ck11 kd40 iK_sets tw1384 tw43 (by decide) tw1382 (by decide +kernel)) ?_
  refine ak (ok_aload_n (k := 0) rfl (by decide +kernel)) ?_
  refine ak (ok_iload_n (k := 1) rfl (by decide +kernel)) ?_
  refine ak (ok_iconst (n := 3) (by decide) (by decide +kernel)) ?_
  refine ak (ok_iload_n (k := 2) rfl (by decide +kernel)) ?_
  refine ak (ok_invV (r := 40) (kK_sets hsd l) qK_sets ck11 kd40 iK_sets tw1384 tw43 (by decide) tw1382 (by decide +kernel)) ?_
  refine ak (ok_aload_n (k := 0) rfl (by decide +kernel)) ?_
  refine ak (ok_iload_n (k := 1) rfl (by decide +kernel)) ?_
  refine ak (ok_iconst (n := 4) (by decide) (by decide +kernel)) ?_
  refine ak (ok_aload_n (k := 0) rfl (by decide +kernel)) ?_
  refine ak (ok_get (k := 0) ck11 kd40 (by decide) (fun _ _ _ => rfl) (vf_40_0 hsd) tw1242 (by decide +kernel)) ?_
  refine ak (ok_bipush (n := 6) (by decide) (by decide +kernel)) ?_
  refine ak (ok_iald kd41 (by decide) (by decide +kernel)) ?_
  refine ak (ok_iload_n (k := 3) rfl (by decide +kernel)) ?_
  refine ak (ok_iadd (by decide +kernel)) ?_
  refine ak (ok_invV (r := 40) (kK_sets hsd l) qK_sets ck11 kd40 iK_sets tw1384 tw43 (by decide) tw1382 (by decide +kernel)) ?_
  refine ak (ok_aload_n (k := 0) rfl (by decide +kernel)) ?_
  refine ak (ok_get (k := 0) ck11 kd40 (by decide) (fun _ _ _ => rfl) (vf_40_0 hsd) tw1242 (by decide +kernel)) ?_
  refine ak (ok_bipush (n := 6) (by decide) (by decide +kernel)) ?_
  refine ak (ok_iald kd41 (by decide) (by decide +kernel)) ?_
  refine ak (ok_iload_n (k := 3) rfl (by decide +kernel)) ?_
  refine ak (ok_iadd (by decide +kernel)) ?_
  refine ak (ok_ireturn rfl (by decide +kernel)) ?_
  exact trivial
set_option maxRecDepth 1000000 in
theorem eK_march (x1 : Int32) (x2 : Int32) (M : Mem) : run (cK_march) (fun _ _ _ _ => none) rtI 400 (seek (cK_march) 0) [aR (40, 0, 0), aI x1, aI x2, aU] [] M = mK_march x1 x2 M := id rfl
theorem lK_march {E : EV} {l : Launch} {p : Program} {e : Env} {s : State} {m : MethodId} {args : Array Value} {below : List Frame} {meth : Method} {c : Code} (A : AllOK E l 3 "FreeLancesModel" prog_13_method_26_code 4 (some .int) outI (cK_march)) (C : Cx E p s m args meth c "FreeLancesModel" prog_13_method_26_code 4 (some .int)) : ∀ (x1 : Int32) (x2 : Int32) (M : Mem) (res : (Int32 × Mem)), mK_march x1 x2 M = some res → Wm E p l e 3 s m args below meth c 4 0 [aR (40, 0, 0), aI x1, aI x2, aU] [] M (outI res).1 (outI res).2 := by
  intro x1 x2 M res h
  refine run_at C A rfl hrtI (n := 400) ((eK_march x1 x2 M).trans h) ?_
  intro t als st M hk; cases hk
def dK_march {β : Type} : Den β := fun as M k => match as with
  | [.inr (.inr (.inl (al0, bl0, cl0))), .inl x1, .inl x2] => if al0 = 40 ∧ bl0 = 0 ∧ cl0 = 0 then (mK_march x1 x2 M).bind fun q => k (aI q.1) q.2 else none
  | _ => none
theorem wK_march {E : EV} (hsd : E.2.2.2 = 1) (l : Launch) (x1 : Int32) (x2 : Int32) (M : Mem) (q : (Int32 × Mem)) (hq : mK_march x1 x2 M = some q) : Con E l 3 yK_march prog_13_method_26_code 4 (some .int) [aR (40, 0, 0), aI x1, aI x2] M (outI q).1 (outI q).2 := by
  refine con_of iK_march (Nat.le_of_ble_eq_true rfl) ?_
  intro p e s m args below meth c C
  exact lK_march (oK_march hsd l) C x1 x2 M _ hq
theorem kK_march {E : EV} (hsd : E.2.2.2 = 1) (l : Launch) {β : Type} : DenOK E l 3 yK_march prog_13_method_26_code 4 (some .int) true (dK_march (β := β)) := by
  intro as M k res h
  unfold dK_march at h
  split at h
  ·
    split at h
    · rename_i hc
      obtain ⟨rfl, rfl, rfl⟩ := hc
      obtain ⟨q, hq, hk⟩ := Option.bind_eq_some_iff.mp h
      exact ⟨aI q.1, q.2, hk, rfl, wK_march hsd l _ _ M q hq⟩
    · cases h
  · cases h
theorem qK_march {β : Type} : RecOK 40 (dK_march (β := β)) := by
  intro as M k res h
  unfold dK_march at h
  split at h
  ·
    split at h
    · rename_i hc
      obtain ⟨rfl, rfl, rfl⟩ := hc
      exact ⟨_, _, _, rfl⟩
    · cases h
  · cases h
/-! ===== FreeLancesModel.buy(II)I ===== -/
abbrev yK_buy : MethodName := ⟨"FreeLancesModel", "buy", "(II)I"⟩
theorem iK_buy : MI yK_buy prog_13_method_27_code 4 (some .int) 2 := ⟨tw1397, tw108, ⟨by decide, by decide⟩, by decide +kernel, by decide, by decide⟩
def cK_buy : List (Ent (Int32 × Mem)) := [(false, 0, 1, sLdA 0),
  (false, 1, 1, sLdI 1),
  (false, 2, 3, sInv 2 true dK_isCompany),
  (false, 5, 3, sIfEq 19),
  (false, 8, 1, sLdI 2),
  (false, 9, 1, sC 1),
  (false, 10, 3, sC 9999),
  (false, 13, 3, sInv 3 true dK_in),
  (false, 16, 3, sIfNe 25),
  (false, 19, 1, sLdA 0),
  (false, 20, 1, sC 1),
  (false, 21, 3, sInv 2 true dK_finds),
  (false, 24, 1, sRetI),
  (false, 25, 1, sLdA 0),
  (false, 26, 1, sLdI 1),
  (false, 27, 1, sC 2),
  (false, 28, 3, sInv 3 true dK_own),
  (false, 31, 1, sStI 3),
  (false, 32, 1, sLdI 3),
  (false, 33, 3, sIfGe 42),
  (false, 36, 1, sLdA 0),
  (false, 37, 1, sC 3),
  (false, 38, 3, sInv 2 true dK_finds),
  (false, 41, 1, sRetI),
  (false, 42, 1, sLdA 0),
  (false, 43, 1, sLdI 1),
  (false, 44, 1, sC 0),
  (false, 45, 3, sInv 3 true dK_own),
  (false, 48, 1, sLdI 2),
  (false, 49, 3, sCmpLt 62),
  (false, 52, 1, sLdA 0),
  (false, 53, 1, sLdI 3),
  (false, 54, 1, sC 1),
  (false, 55, 3, sInv 3 true dK_ofTown),
  (false, 58, 1, sLdI 2),
  (false, 59, 3, sCmpGe 68),
  (false, 62, 1, sLdA 0),
  (false, 63, 1, sC 2),
  (false, 64, 3, sInv 2 true dK_finds),
  (false, 67, 1, sRetI),
  (false, 68, 1, sLdA 0),
  (false, 69, 1, sLdI 3),
  (false, 70, 1, sC 0),
  (false, 71, 1, sLdI 2),
  (false, 72, 3, sInv 4 false dK_townGets),
  (false, 75, 1, sLdA 0),
  (false, 76, 1, sLdI 3),
  (false, 77, 1, sC 1),
  (false, 78, 1, sLdI 2),
  (false, 79, 1, sUn (fun x => -x)),
  (false, 80, 3, sInv 4 false dK_townGets),
  (false, 83, 1, sLdA 0),
  (false, 84, 1, sLdI 1),
  (false, 85, 1, sC 0),
  (false, 86, 1, sLdA 0),
  (false, 87, 1, sLdI 1),
  (false, 88, 1, sC 0),
  (false, 89, 3, sInv 3 true dK_own),
  (false, 92, 1, sLdI 2),
  (false, 93, 1, sBin (fun x y => x - y)),
  (false, 94, 3, sInv 4 false dK_sets),
  (false, 97, 1, sLdA 0),
  (false, 98, 1, sLdI 1),
  (false, 99, 1, sC 1),
  (false, 100, 1, sLdA 0),
  (false, 101, 1, sLdI 1),
  (false, 102, 1, sC 1),
  (false, 103, 3, sInv 3 true dK_own),
  (false, 106, 1, sLdI 2),
  (false, 107, 1, sBin (fun x y => x + y)),
  (false, 108, 3, sInv 4 false dK_sets),
  (false, 111, 1, sLdA 0),
  (false, 112, 1, sLdI 1),
  (false, 113, 1, sC 1),
  (false, 114, 3, sInv 3 true dK_own),
  (false, 117, 1, sRetI)]
theorem oK_buy {E : EV} (hsd : E.2.2.2 = 1) (l : Launch) : AllOK E l 3 "FreeLancesModel" prog_13_method_27_code 4 (some .int) outI (cK_buy) := by
  refine ak (ok_aload_n (k := 0) rfl (by decide +kernel)) ?_
  refine ak (ok_iload_n (k := 1) rfl (by decide +kernel)) ?_
  refine ak (ok_invV (r := 40) (kK_isCompany hsd l) qK_isCompany ck11 kd40 iK_isCompany tw1392 tw44 (by decide) tw1390 (by decide +kernel)) ?_
  refine ak (ok_if_eq (off := 14) (by decide) (by decide +kernel)) ?_
  refine ak (ok_iload_n (k := 2) rfl (by decide +kernel)) ?_
  refine ak (ok_iconst (n := 1) (by decide) (by decide +kernel)) ?_
  refine ak (ok_sipush (n := 9999) (by decide) (by decide +kernel)) ?_
  refine ak (ok_invS (kK_in hsd l) iK_in tw1330 (by decide) tw1329 (by decide +kernel)) ?_
  refine ak (ok_if_ne (off := 9) (by decide) (by decide +kernel)) ?_
  refine ak (ok_aload_n (k := 0) rfl (by decide +kernel)) ?_
  refine ak (ok_iconst (n := 1) (by decide) (by decide +kernel)) ?_
  refine ak (ok_invV (r := 40) (kK_finds hsd l) qK_finds ck11 kd40 iK_finds tw1334 tw37 (by decide) tw1332 (by decide +kernel)) ?_
  refine ak (ok_ireturn rfl (by decide +kernel)) ?_
  refine ak (ok_aload_n (k := 0) rfl (by decide +kernel)) ?_
  refine ak (ok_iload_n (k := 1) rfl (by decide +kernel)) ?_
  refine ak (ok_iconst (n := 2) (by decide) (by decide +kernel)) ?_
  refine ak (ok_invV (r := 40) (kK_own hsd l) qK_own ck11 kd40 iK_own tw1363 tw41 (by decide) tw1361 (by decide +kernel)) ?_
  refine ak (ok_istore_n (k := 3) rfl (by decide) (by decide +kernel)) ?_
  refine ak (ok_iload_n (k := 3) rfl (by decide +kernel)) ?_
  refine ak (ok_if_ge (off := 9) (by decide) (by decide +kernel)) ?_
  refine ak (ok_aload_n (k := 0) rfl (by decide +kernel)) ?_
  refine ak (ok_iconst (n := 3) (by decide) (by decide +kernel)) ?_
  refine ak (ok_invV (r := 40) (kK_finds hsd l) qK_finds ck11 kd40 iK_finds tw1334 tw37 (by decide) tw1332 (by decide +kernel)) ?_
  refine ak (ok_ireturn rfl (by decide +kernel)) ?_
  refine ak (ok_aload_n (k := 0) rfl (by decide +kernel)) ?_
  refine ak (ok_iload_n (k := 1) rfl (by decide +kernel)) ?_
  refine ak (ok_iconst (n := 0) (by decide) (by decide +kernel)) ?_
  refine ak (ok_invV (r := 40) (kK_own hsd l) qK_own ck11 kd40 iK_own tw1363 tw41 (by decide) tw1361 (by decide +kernel)) ?_
  refine ak (ok_iload_n (k := 2) rfl (by decide +kernel)) ?_
  refine ak (ok_icmp_lt (off := 13) (by decide) (by decide +kernel)) ?_
  refine ak (ok_aload_n (k := 0) rfl (by decide +kernel)) ?_
  refine ak (ok_iload_n (k := 3) rfl (by decide +kernel)) ?_
  refine ak (ok_iconst (n := 1) (by decide) (by decide +kernel)) ?_
  refine ak (ok_invV (r := 40) (kK_ofTown hsd l) qK_ofTown ck11 kd40 iK_ofTown tw1359 tw40 (by decide) tw1357 (by decide +kernel)) ?_
  refine ak (ok_iload_n (k := 2) rfl (by decide +kernel)) ?_
  refine ak (ok_icmp_ge (off := 9) (by decide) (by decide +kernel)) ?_
  refine ak (ok_aload_n (k := 0) rfl (by decide +kernel)) ?_
  refine ak (ok_iconst (n := 2) (by decide) (by decide +kernel)) ?_
  refine ak (ok_invV (r := 40) (kK_finds hsd l) qK_finds ck11 kd40 iK_finds tw1334 tw37 (by decide) tw1332 (by decide +kernel)) ?_
  refine ak (ok_ireturn rfl (by decide +kernel)) ?_
  refine ak (ok_aload_n (k := 0) rfl (by decide +kernel)) ?_
  refine ak (ok_iload_n (k := 3) rfl (by decide +kernel)) ?_
  refine ak (ok_iconst (n := 0) (by decide) (by decide +kernel)) ?_
  refine ak (ok_iload_n (k := 2) rfl (by decide +kernel)) ?_
  refine ak (ok_invV (r := 40) (kK_townGets hsd l) qK_townGets ck11 kd40 iK_townGets tw1376 tw42 (by decide) tw1374 (by decide +kernel)) ?_
  refine ak (ok_aload_n (k := 0) rfl (by decide +kernel)) ?_
  refine ak (ok_iload_n (k := 3) rfl (by decide +kernel)) ?_
  refine ak (ok_iconst (n := 1) (by decide) (by decide +kernel)) ?_
  refine ak (ok_iload_n (k := 2) rfl (by decide +kernel)) ?_
  refine ak (ok_ineg (by decide +kernel)) ?_
  refine ak (ok_invV (r := 40) (kK_townGets hsd l) qK_townGets ck11 kd40 iK_townGets tw1376 tw42 (by decide) tw1374 (by decide +kernel)) ?_
  refine ak (ok_aload_n (k := 0) rfl (by decide +kernel)) ?_
  refine ak (ok_iload_n (k := 1) rfl (by decide +kernel)) ?_
  refine ak (ok_iconst (n := 0) (by decide) (by decide +kernel)) ?_
  refine ak (ok_aload_n (k := 0) rfl (by decide +kernel)) ?_
  refine ak (ok_iload_n (k := 1) rfl (by decide +kernel)) ?_
  refine ak (ok_iconst (n := 0) (by decide) (by decide +kernel)) ?_
  refine ak (ok_invV (r := 40) (kK_own hsd l) qK_own ck11 kd40 iK_own tw1363 tw41 (by decide) tw1361 (by decide +kernel)) ?_
  refine ak (ok_iload_n (k := 2) rfl (by decide +kernel)) ?_
  refine ak (ok_isub (by decide +kernel)) ?_
  refine ak (ok_invV (r := 40) (kK_sets hsd l) qK_sets ck11 kd40 iK_sets tw1384 tw43 (by decide) tw1382 (by decide +kernel)) ?_
  refine ak (ok_aload_n (k := 0) rfl (by decide +kernel)) ?_
  refine ak (ok_iload_n (k := 1) rfl (by decide +kernel)) ?_
  refine ak (ok_iconst (n := 1) (by decide) (by decide +kernel)) ?_
  refine ak (ok_aload_n (k := 0) rfl (by decide +kernel)) ?_
  refine ak (ok_iload_n (k := 1) rfl (by decide +kernel)) ?_
  refine ak (ok_iconst (n := 1) (by decide) (by decide +kernel)) ?_
  refine ak (ok_invV (r := 40) (kK_own hsd l) qK_own ck11 kd40 iK_own tw1363 tw41 (by decide) tw1361 (by decide +kernel)) ?_
  refine ak (ok_iload_n (k := 2) rfl (by decide +kernel)) ?_
  refine ak (ok_iadd (by decide +kernel)) ?_
  refine ak (ok_invV (r := 40) (kK_sets hsd l) qK_sets ck11 kd40 iK_sets tw1384 tw43 (by decide) tw1382 (by decide +kernel)) ?_
  refine ak (ok_aload_n (k := 0) rfl (by decide +kernel)) ?_
  refine ak (ok_iload_n (k := 1) rfl (by decide +kernel)) ?_
  refine ak (ok_iconst (n := 1) (by decide) (by decide +kernel)) ?_
  refine ak (ok_invV (r := 40) (kK_own hsd l) qK_own ck11 kd40 iK_own tw1363 tw41 (by decide) tw1361 (by decide +kernel)) ?_
  refine ak (ok_ireturn rfl (by decide +kernel)) ?_
  exact trivial
set_option maxRecDepth 1000000 in
theorem eK_buy (x1 : Int32) (x2 : Int32) (M : Mem) : run (cK_buy) (fun _ _ _ _ => none) rtI 400 (seek (cK_buy) 0) [aR (40, 0, 0), aI x1, aI x2, aU] [] M = mK_buy x1 x2 M := id rfl
theorem lK_buy {E : EV} {l : Launch} {p : Program} {e : Env} {s : State} {m : MethodId} {args : Array Value} {below : List Frame} {meth : Method} {c : Code} (A : AllOK E l 3 "FreeLancesModel" prog_13_method_27_code 4 (some .int) outI (cK_buy)) (C : Cx E p s m args meth c "FreeLancesModel" prog_13_method_27_code 4 (some .int)) : ∀ (x1 : Int32) (x2 : Int32) (M : Mem) (res : (Int32 × Mem)), mK_buy x1 x2 M = some res → Wm E p l e 3 s m args below meth c 4 0 [aR (40, 0, 0), aI x1, aI x2, aU] [] M (outI res).1 (outI res).2 := by
  intro x1 x2 M res h
  refine run_at C A rfl hrtI (n := 400) ((eK_buy x1 x2 M).trans h) ?_
  intro t als st M hk; cases hk
def dK_buy {β : Type} : Den β := fun as M k => match as with
  | [.inr (.inr (.inl (al0, bl0, cl0))), .inl x1, .inl x2] => if al0 = 40 ∧ bl0 = 0 ∧ cl0 = 0 then (mK_buy x1 x2 M).bind fun q => k (aI q.1) q.2 else none
  | _ => none
theorem wK_buy {E : EV} (hsd : E.2.2.2 = 1) (l : Launch) (x1 : Int32) (x2 : Int32) (M : Mem) (q : (Int32 × Mem)) (hq : mK_buy x1 x2 M = some q) : Con E l 3 yK_buy prog_13_method_27_code 4 (some .int) [aR (40, 0, 0), aI x1, aI x2] M (outI q).1 (outI q).2 := by
  refine con_of iK_buy (Nat.le_of_ble_eq_true rfl) ?_
  intro p e s m args below meth c C
  exact lK_buy (oK_buy hsd l) C x1 x2 M _ hq
theorem kK_buy {E : EV} (hsd : E.2.2.2 = 1) (l : Launch) {β : Type} : DenOK E l 3 yK_buy prog_13_method_27_code 4 (some .int) true (dK_buy (β := β)) := by
  intro as M k res h
  unfold dK_buy at h
  split at h
  ·
    split at h
    · rename_i hc
      obtain ⟨rfl, rfl, rfl⟩ := hc
      obtain ⟨q, hq, hk⟩ := Option.bind_eq_some_iff.mp h
      exact ⟨aI q.1, q.2, hk, rfl, wK_buy hsd l _ _ M q hq⟩
    · cases h
  · cases h
theorem qK_buy {β : Type} : RecOK 40 (dK_buy (β := β)) := by
  intro as M k res h
  unfold dK_buy at h
  split at h
  ·
    split at h
    · rename_i hc
      obtain ⟨rfl, rfl, rfl⟩ := hc
      exact ⟨_, _, _, rfl⟩
    · cases h
  · cases h
/-! ===== FreeLancesModel.its(II)I ===== -/
abbrev yK_its : MethodName := ⟨"FreeLancesModel", "its", "(II)I"⟩
theorem iK_its : MI yK_its prog_13_method_14_code 3 (some .int) 2 := ⟨tw1409, tw108, ⟨by decide, by decide⟩, by decide +kernel, by decide, by decide⟩
def cK_its : List (Ent (Int32 × Mem)) := [(false, 0, 1, sLdA 0),
  (false, 1, 3, sGet 40 (fun w i M => aR (41, 0, 0))),
  (false, 4, 3, sC 220),
  (false, 7, 1, sC 5),
  (false, 8, 1, sLdI 1),
  (false, 9, 1, sBin (fun x y => x * y)),
  (false, 10, 1, sBin (fun x y => x + y)),
  (false, 11, 1, sLdI 2),
  (false, 12, 1, sBin (fun x y => x + y)),
  (false, 13, 1, sIald 41 1502),
  (false, 14, 1, sRetI)]
theorem oK_its {E : EV} (hsd : E.2.2.2 = 1) (l : Launch) : AllOK E l 1 "FreeLancesModel" prog_13_method_14_code 3 (some .int) outI (cK_its) := by
  refine ak (ok_aload_n (k := 0) rfl (by decide +kernel)) ?_
  refine ak (ok_get (k := 0) ck11 kd40 (by decide) (fun _ _ _ => rfl) (vf_40_0 hsd) tw1242 (by decide +kernel)) ?_
  refine ak (ok_sipush (n := 220) (by decide) (by decide +kernel)) ?_
  refine ak (ok_iconst (n := 5) (by decide) (by decide +kernel)) ?_
  refine ak (ok_iload_n (k := 1) rfl (by decide +kernel)) ?_
  refine ak (ok_imul (by decide +kernel)) ?_
  refine ak (ok_iadd (by decide +kernel)) ?_
  refine ak (ok_iload_n (k := 2) rfl (by decide +kernel)) ?_
  refine ak (ok_iadd (by decide +kernel)) ?_
  refine ak (ok_iald kd41 (by decide) (by decide +kernel)) ?_
  refine ak (ok_ireturn rfl (by decide +kernel)) ?_
  exact trivial
set_option maxRecDepth 1000000 in
theorem eK_its (x1 : Int32) (x2 : Int32) (M : Mem) : run (cK_its) (fun _ _ _ _ => none) rtI 400 (seek (cK_its) 0) [aR (40, 0, 0), aI x1, aI x2] [] M = mK_its x1 x2 M := id rfl
theorem lK_its {E : EV} {l : Launch} {p : Program} {e : Env} {s : State} {m : MethodId} {args : Array Value} {below : List Frame} {meth : Method} {c : Code} (A : AllOK E l 1 "FreeLancesModel" prog_13_method_14_code 3 (some .int) outI (cK_its)) (C : Cx E p s m args meth c "FreeLancesModel" prog_13_method_14_code 3 (some .int)) : ∀ (x1 : Int32) (x2 : Int32) (M : Mem) (res : (Int32 × Mem)), mK_its x1 x2 M = some res → Wm E p l e 1 s m args below meth c 3 0 [aR (40, 0, 0), aI x1, aI x2] [] M (outI res).1 (outI res).2 := by
  intro x1 x2 M res h
  refine run_at C A rfl hrtI (n := 400) ((eK_its x1 x2 M).trans h) ?_
  intro t als st M hk; cases hk
def dK_its {β : Type} : Den β := fun as M k => match as with
  | [.inr (.inr (.inl (al0, bl0, cl0))), .inl x1, .inl x2] => if al0 = 40 ∧ bl0 = 0 ∧ cl0 = 0 then (mK_its x1 x2 M).bind fun q => k (aI q.1) q.2 else none
  | _ => none
theorem wK_its {E : EV} (hsd : E.2.2.2 = 1) (l : Launch) (x1 : Int32) (x2 : Int32) (M : Mem) (q : (Int32 × Mem)) (hq : mK_its x1 x2 M = some q) : Con E l 1 yK_its prog_13_method_14_code 3 (some .int) [aR (40, 0, 0), aI x1, aI x2] M (outI q).1 (outI q).2 := by
  refine con_of iK_its (Nat.le_of_ble_eq_true rfl) ?_
  intro p e s m args below meth c C
  exact lK_its (oK_its hsd l) C x1 x2 M _ hq
theorem kK_its {E : EV} (hsd : E.2.2.2 = 1) (l : Launch) {β : Type} : DenOK E l 1 yK_its prog_13_method_14_code 3 (some .int) true (dK_its (β := β)) := by
  intro as M k res h
  unfold dK_its at h
  split at h
  ·
    split at h
    · rename_i hc
      obtain ⟨rfl, rfl, rfl⟩ := hc
      obtain ⟨q, hq, hk⟩ := Option.bind_eq_some_iff.mp h
      exact ⟨aI q.1, q.2, hk, rfl, wK_its hsd l _ _ M q hq⟩
    · cases h
  · cases h
theorem qK_its {β : Type} : RecOK 40 (dK_its (β := β)) := by
  intro as M k res h
  unfold dK_its at h
  split at h
  ·
    split at h
    · rename_i hc
      obtain ⟨rfl, rfl, rfl⟩ := hc
      exact ⟨_, _, _, rfl⟩
    · cases h
  · cases h
/-! ===== FreeLancesModel.manySo(II)I ===== -/
abbrev yK_manySo : MethodName := ⟨"FreeLancesModel", "manySo", "(II)I"⟩
theorem iK_manySo : MI yK_manySo prog_13_method_28_code 5 (some .int) 2 := ⟨tw1405, tw108, ⟨by decide, by decide⟩, by decide +kernel, by decide, by decide⟩
def cK_manySo : List (Ent (Int32 × Mem)) := [(false, 0, 1, sC 0),
  (false, 1, 1, sStI 3),
  (false, 2, 1, sC 0),
  (false, 3, 2, sStI 4),
  (true, 5, 2, sLdI 4),
  (false, 7, 1, sLdA 0),
  (false, 8, 3, sGet 40 (fun w i M => aR (41, 0, 0))),
  (false, 11, 1, sC 3),
  (false, 12, 1, sIald 41 1502),
  (false, 13, 3, sCmpGe 52),
  (false, 16, 1, sLdI 3),
  (false, 17, 1, sLdA 0),
  (false, 18, 2, sLdI 4),
  (false, 20, 1, sC 0),
  (false, 21, 3, sInv 3 true dK_its),
  (false, 24, 1, sLdI 1),
  (false, 25, 3, sCmpNe 43),
  (false, 28, 1, sLdA 0),
  (false, 29, 2, sLdI 4),
  (false, 31, 1, sC 3),
  (false, 32, 3, sInv 3 true dK_its),
  (false, 35, 1, sLdI 2),
  (false, 36, 3, sCmpNe 43),
  (false, 39, 1, sC 1),
  (false, 40, 3, sGoto 44),
  (false, 43, 1, sC 0),
  (false, 44, 1, sBin (fun x y => x + y)),
  (false, 45, 1, sStI 3),
  (false, 46, 3, sInc 4 1),
  (false, 49, 3, sGoto 5),
  (false, 52, 1, sLdI 3),
  (false, 53, 1, sRetI)]
theorem oK_manySo {E : EV} (hsd : E.2.2.2 = 1) (l : Launch) : AllOK E l 2 "FreeLancesModel" prog_13_method_28_code 5 (some .int) outI (cK_manySo) := by
  refine ak (ok_iconst (n := 0) (by decide) (by decide +kernel)) ?_
  refine ak (ok_istore_n (k := 3) rfl (by decide) (by decide +kernel)) ?_
  refine ak (ok_iconst (n := 0) (by decide) (by decide +kernel)) ?_
  refine ak (ok_istore (by decide) (by decide +kernel)) ?_
  refine ak (ok_iload (by decide +kernel)) ?_
  refine ak (ok_aload_n (k := 0) rfl (by decide +kernel)) ?_
  refine ak (ok_get (k := 0) ck11 kd40 (by decide) (fun _ _ _ => rfl) (vf_40_0 hsd) tw1242 (by decide +kernel)) ?_
  refine ak (ok_iconst (n := 3) (by decide) (by decide +kernel)) ?_
  refine ak (ok_iald kd41 (by decide) (by decide +kernel)) ?_
  refine ak (ok_icmp_ge (off := 39) (by decide) (by decide +kernel)) ?_
  refine ak (ok_iload_n (k := 3) rfl (by decide +kernel)) ?_
  refine ak (ok_aload_n (k := 0) rfl (by decide +kernel)) ?_
  refine ak (ok_iload (by decide +kernel)) ?_
  refine ak (ok_iconst (n := 0) (by decide) (by decide +kernel)) ?_
  refine ak (ok_invV (r := 40) (kK_its hsd l) qK_its ck11 kd40 iK_its tw1408 tw46 (by decide) tw1406 (by decide +kernel)) ?_
  refine ak (ok_iload_n (k := 1) rfl (by decide +kernel)) ?_
  refine ak (ok_icmp_ne (off := 18) (by decide) (by decide +kernel)) ?_
  refine ak (ok_aload_n (k := 0) rfl (by decide +kernel)) ?_
  refine ak (ok_iload (by decide +kernel)) ?_
  refine ak (ok_iconst (n := 3) (by decide) (by decide +kernel)) ?_
  refine ak (ok_invV (r := 40) (kK_its hsd l) qK_its ck11 kd40 iK_its tw1408 tw46 (by decide) tw1406 (by decide +kernel)) ?_
  refine ak (ok_iload_n (k := 2) rfl (by decide +kernel)) ?_
  refine ak (ok_icmp_ne (off := 7) (by decide) (by decide +kernel)) ?_
  refine ak (ok_iconst (n := 1) (by decide) (by decide +kernel)) ?_
  refine ak (ok_goto (off := 4) (by decide) (by decide +kernel)) ?_
  refine ak (ok_iconst (n := 0) (by decide) (by decide +kernel)) ?_
  refine ak (ok_iadd (by decide +kernel)) ?_
  refine ak (ok_istore_n (k := 3) rfl (by decide) (by decide +kernel)) ?_
  refine ak (ok_iinc (n := 1) (by decide) (by decide) (by decide +kernel)) ?_
  refine ak (ok_goto (off := (-44)) (by decide) (by decide +kernel)) ?_
  refine ak (ok_iload_n (k := 3) rfl (by decide +kernel)) ?_
  refine ak (ok_ireturn rfl (by decide +kernel)) ?_
  exact trivial
def KK_manySo_5 (j5 : Int32 → Int32 → Int32 → Int32 → Mem → Option (Int32 × Mem)) : Jm (Int32 × Mem) := fun t als st M =>
  if t = 5 then (match als, st with
  | [.inr (.inr (.inl (al0, bl0, cl0))), .inl x1, .inl x2, .inl x3, .inl x4], [] => if al0 = 40 ∧ bl0 = 0 ∧ cl0 = 0 then j5 x1 x2 x3 x4 M else none
  | _, _ => none) else
  none
set_option maxRecDepth 1000000 in
theorem eK_manySo_5 (j5 : Int32 → Int32 → Int32 → Int32 → Mem → Option (Int32 × Mem)) (x1 : Int32) (x2 : Int32) (x3 : Int32) (x4 : Int32) (M : Mem) : run (cK_manySo) (KK_manySo_5 j5) rtI 400 (seek (cK_manySo) 5) [aR (40, 0, 0), aI x1, aI x2, aI x3, aI x4] [] M = mK_manySo_5b j5 x1 x2 x3 x4 M := id rfl
theorem lK_manySo_5 {E : EV} {l : Launch} {p : Program} {e : Env} {s : State} {m : MethodId} {args : Array Value} {below : List Frame} {meth : Method} {c : Code} (A : AllOK E l 2 "FreeLancesModel" prog_13_method_28_code 5 (some .int) outI (cK_manySo)) (C : Cx E p s m args meth c "FreeLancesModel" prog_13_method_28_code 5 (some .int)) : ∀ (n : Nat), ∀ (x1 : Int32) (x2 : Int32) (x3 : Int32) (x4 : Int32) (M : Mem) (res : (Int32 × Mem)), mK_manySo_5 n x1 x2 x3 x4 M = some res → Wm E p l e 2 s m args below meth c 5 5 [aR (40, 0, 0), aI x1, aI x2, aI x3, aI x4] [] M (outI res).1 (outI res).2 := by
  intro n
  induction n with
  | zero => intro _ _ _ _ M res h; cases h
  | succ n ih =>
    intro x1 x2 x3 x4 M res h
    refine run_at C A rfl hrtI (n := 400) ((eK_manySo_5 (mK_manySo_5 n) x1 x2 x3 x4 M).trans h) ?_
    intro t als st M hk
    unfold KK_manySo_5 at hk
    split at hk
    · rename_i ht
      subst ht
      split at hk
      · split at hk
        · rename_i hc
          obtain ⟨rfl, rfl, rfl⟩ := hc
          exact ih _ _ _ _ _ _ hk
        · cases hk
      · cases hk
    cases hk
def KK_manySo (j5 : Int32 → Int32 → Int32 → Int32 → Mem → Option (Int32 × Mem)) : Jm (Int32 × Mem) := fun t als st M =>
  if t = 5 then (match als, st with
  | [.inr (.inr (.inl (al0, bl0, cl0))), .inl x1, .inl x2, .inl x3, .inl x4], [] => if al0 = 40 ∧ bl0 = 0 ∧ cl0 = 0 then j5 x1 x2 x3 x4 M else none
  | _, _ => none) else
  none
set_option maxRecDepth 1000000 in
theorem eK_manySo (j5 : Int32 → Int32 → Int32 → Int32 → Mem → Option (Int32 × Mem)) (x1 : Int32) (x2 : Int32) (M : Mem) : run (cK_manySo) (KK_manySo j5) rtI 400 (seek (cK_manySo) 0) [aR (40, 0, 0), aI x1, aI x2, aU, aU] [] M = mK_manySob j5 x1 x2 M := id rfl
theorem lK_manySo {E : EV} {l : Launch} {p : Program} {e : Env} {s : State} {m : MethodId} {args : Array Value} {below : List Frame} {meth : Method} {c : Code} (A : AllOK E l 2 "FreeLancesModel" prog_13_method_28_code 5 (some .int) outI (cK_manySo)) (C : Cx E p s m args meth c "FreeLancesModel" prog_13_method_28_code 5 (some .int)) : ∀ (x1 : Int32) (x2 : Int32) (M : Mem) (res : (Int32 × Mem)), mK_manySo x1 x2 M = some res → Wm E p l e 2 s m args below meth c 5 0 [aR (40, 0, 0), aI x1, aI x2, aU, aU] [] M (outI res).1 (outI res).2 := by
  intro x1 x2 M res h
  refine run_at C A rfl hrtI (n := 400) ((eK_manySo (mK_manySo_5 fuel) x1 x2 M).trans h) ?_
  intro t als st M hk
  unfold KK_manySo at hk
  split at hk
  · rename_i ht
    subst ht
    split at hk
    · split at hk
      · rename_i hc
        obtain ⟨rfl, rfl, rfl⟩ := hc
        exact lK_manySo_5 A C _ _ _ _ _ _ _ hk
      · cases hk
    · cases hk
  cases hk
def dK_manySo {β : Type} : Den β := fun as M k => match as with
  | [.inr (.inr (.inl (al0, bl0, cl0))), .inl x1, .inl x2] => if al0 = 40 ∧ bl0 = 0 ∧ cl0 = 0 then (mK_manySo x1 x2 M).bind fun q => k (aI q.1) q.2 else none
  | _ => none
theorem wK_manySo {E : EV} (hsd : E.2.2.2 = 1) (l : Launch) (x1 : Int32) (x2 : Int32) (M : Mem) (q : (Int32 × Mem)) (hq : mK_manySo x1 x2 M = some q) : Con E l 2 yK_manySo prog_13_method_28_code 5 (some .int) [aR (40, 0, 0), aI x1, aI x2] M (outI q).1 (outI q).2 := by
  refine con_of iK_manySo (Nat.le_of_ble_eq_true rfl) ?_
  intro p e s m args below meth c C
  exact lK_manySo (oK_manySo hsd l) C x1 x2 M _ hq
theorem kK_manySo {E : EV} (hsd : E.2.2.2 = 1) (l : Launch) {β : Type} : DenOK E l 2 yK_manySo prog_13_method_28_code 5 (some .int) true (dK_manySo (β := β)) := by
  intro as M k res h
  unfold dK_manySo at h
  split at h
  ·
    split at h
    · rename_i hc
      obtain ⟨rfl, rfl, rfl⟩ := hc
      obtain ⟨q, hq, hk⟩ := Option.bind_eq_some_iff.mp h
      exact ⟨aI q.1, q.2, hk, rfl, wK_manySo hsd l _ _ M q hq⟩
    · cases h
  · cases h
theorem qK_manySo {β : Type} : RecOK 40 (dK_manySo (β := β)) := by
  intro as M k res h
  unfold dK_manySo at h
  split at h
  ·
    split at h
    · rename_i hc
      obtain ⟨rfl, rfl, rfl⟩ := hc
      exact ⟨_, _, _, rfl⟩
    · cases h
  · cases h
/-! ===== FreeLancesModel.bond(II)I ===== -/
abbrev yK_bond : MethodName := ⟨"FreeLancesModel", "bond", "(II)I"⟩
theorem iK_bond : MI yK_bond prog_13_method_16_code 3 (some .int) 2 := ⟨tw1421, tw108, ⟨by decide, by decide⟩, by decide +kernel, by decide, by decide⟩
def cK_bond : List (Ent (Int32 × Mem)) := [(false, 0, 1, sLdA 0),
  (false, 1, 3, sGet 40 (fun w i M => aR (41, 0, 0))),
  (false, 4, 3, sC 1056),
  (false, 7, 2, sC 14),
  (false, 9, 1, sLdI 1),
  (false, 10, 1, sBin (fun x y => x * y)),
  (false, 11, 1, sBin (fun x y => x + y)),
  (false, 12, 1, sLdI 2),
  (false, 13, 1, sBin (fun x y => x + y)),
  (false, 14, 1, sIald 41 1502),
  (false, 15, 1, sRetI)]
theorem oK_bond {E : EV} (hsd : E.2.2.2 = 1) (l : Launch) : AllOK E l 1 "FreeLancesModel" prog_13_method_16_code 3 (some .int) outI (cK_bond) := by
  refine ak (ok_aload_n (k := 0) rfl (by decide +kernel)) ?_
  refine ak (ok_get (k := 0) ck11 kd40 (by decide) (fun _ _ _ => rfl) (vf_40_0 hsd) tw1242 (by decide +kernel)) ?_
  refine ak (ok_sipush (n := 1056) (by decide) (by decide +kernel)) ?_
  refine ak (ok_bipush (n := 14) (by decide) (by decide +kernel)) ?_
  refine ak (ok_iload_n (k := 1) rfl (by decide +kernel)) ?_
  refine ak (ok_imul (by decide +kernel)) ?_
  refine ak (ok_iadd (by decide +kernel)) ?_
  refine ak (ok_iload_n (k := 2) rfl (by decide +kernel)) ?_
  refine ak (ok_iadd (by decide +kernel)) ?_
  refine ak (ok_iald kd41 (by decide) (by decide +kernel)) ?_
  refine ak (ok_ireturn rfl (by decide +kernel)) ?_
  exact trivial
set_option maxRecDepth 1000000 in
theorem eK_bond (x1 : Int32) (x2 : Int32) (M : Mem) : run (cK_bond) (fun _ _ _ _ => none) rtI 400 (seek (cK_bond) 0) [aR (40, 0, 0), aI x1, aI x2] [] M = mK_bond x1 x2 M := id rfl
theorem lK_bond {E : EV} {l : Launch} {p : Program} {e : Env} {s : State} {m : MethodId} {args : Array Value} {below : List Frame} {meth : Method} {c : Code} (A : AllOK E l 1 "FreeLancesModel" prog_13_method_16_code 3 (some .int) outI (cK_bond)) (C : Cx E p s m args meth c "FreeLancesModel" prog_13_method_16_code 3 (some .int)) : ∀ (x1 : Int32) (x2 : Int32) (M : Mem) (res : (Int32 × Mem)), mK_bond x1 x2 M = some res → Wm E p l e 1 s m args below meth c 3 0 [aR (40, 0, 0), aI x1, aI x2] [] M (outI res).1 (outI res).2 := by
  intro x1 x2 M res h
  refine run_at C A rfl hrtI (n := 400) ((eK_bond x1 x2 M).trans h) ?_
  intro t als st M hk; cases hk
def dK_bond {β : Type} : Den β := fun as M k => match as with
  | [.inr (.inr (.inl (al0, bl0, cl0))), .inl x1, .inl x2] => if al0 = 40 ∧ bl0 = 0 ∧ cl0 = 0 then (mK_bond x1 x2 M).bind fun q => k (aI q.1) q.2 else none
  | _ => none
theorem wK_bond {E : EV} (hsd : E.2.2.2 = 1) (l : Launch) (x1 : Int32) (x2 : Int32) (M : Mem) (q : (Int32 × Mem)) (hq : mK_bond x1 x2 M = some q) : Con E l 1 yK_bond prog_13_method_16_code 3 (some .int) [aR (40, 0, 0), aI x1, aI x2] M (outI q).1 (outI q).2 := by
  refine con_of iK_bond (Nat.le_of_ble_eq_true rfl) ?_
  intro p e s m args below meth c C
  exact lK_bond (oK_bond hsd l) C x1 x2 M _ hq
theorem kK_bond {E : EV} (hsd : E.2.2.2 = 1) (l : Launch) {β : Type} : DenOK E l 1 yK_bond prog_13_method_16_code 3 (some .int) true (dK_bond (β := β)) := by
  intro as M k res h
  unfold dK_bond at h
  split at h
  ·
    split at h
    · rename_i hc
      obtain ⟨rfl, rfl, rfl⟩ := hc
      obtain ⟨q, hq, hk⟩ := Option.bind_eq_some_iff.mp h
      exact ⟨aI q.1, q.2, hk, rfl, wK_bond hsd l _ _ M q hq⟩
    · cases h
  · cases h
theorem qK_bond {β : Type} : RecOK 40 (dK_bond (β := β)) := by
  intro as M k res h
  unfold dK_bond at h
  split at h
  ·
    split at h
    · rename_i hc
      obtain ⟨rfl, rfl, rfl⟩ := hc
      exact ⟨_, _, _, rfl⟩
    · cases h
  · cases h
/-! ===== FreeLancesModel.isContract(I)Z ===== -/
abbrev yK_isContract : MethodName := ⟨"FreeLancesModel", "isContract", "(I)Z"⟩
theorem iK_isContract : MI yK_isContract prog_13_method_29_code 2 (some .boolean) 1 := ⟨tw1417, tw108, ⟨by decide, by decide⟩, by decide +kernel, by decide, by decide⟩
def cK_isContract : List (Ent (Int32 × Mem)) := [(false, 0, 1, sLdA 0),
  (false, 1, 1, sLdI 1),
  (false, 2, 1, sC 0),
  (false, 3, 3, sInv 3 true dK_bond),
  (false, 6, 1, sC 1),
  (false, 7, 3, sCmpEq 20),
  (false, 10, 1, sLdA 0),
  (false, 11, 1, sLdI 1),
  (false, 12, 1, sC 0),
  (false, 13, 3, sInv 3 true dK_bond),
  (false, 16, 1, sC 2),
  (false, 17, 3, sCmpNe 24),
  (false, 20, 1, sC 1),
  (false, 21, 3, sGoto 25),
  (false, 24, 1, sC 0),
  (false, 25, 1, sRetZ)]
theorem oK_isContract {E : EV} (hsd : E.2.2.2 = 1) (l : Launch) : AllOK E l 2 "FreeLancesModel" prog_13_method_29_code 2 (some .boolean) outI (cK_isContract) := by
  refine ak (ok_aload_n (k := 0) rfl (by decide +kernel)) ?_
  refine ak (ok_iload_n (k := 1) rfl (by decide +kernel)) ?_
  refine ak (ok_iconst (n := 0) (by decide) (by decide +kernel)) ?_
  refine ak (ok_invV (r := 40) (kK_bond hsd l) qK_bond ck11 kd40 iK_bond tw1420 tw49 (by decide) tw1418 (by decide +kernel)) ?_
  refine ak (ok_iconst (n := 1) (by decide) (by decide +kernel)) ?_
  refine ak (ok_icmp_eq (off := 13) (by decide) (by decide +kernel)) ?_
  refine ak (ok_aload_n (k := 0) rfl (by decide +kernel)) ?_
  refine ak (ok_iload_n (k := 1) rfl (by decide +kernel)) ?_
  refine ak (ok_iconst (n := 0) (by decide) (by decide +kernel)) ?_
  refine ak (ok_invV (r := 40) (kK_bond hsd l) qK_bond ck11 kd40 iK_bond tw1420 tw49 (by decide) tw1418 (by decide +kernel)) ?_
  refine ak (ok_iconst (n := 2) (by decide) (by decide +kernel)) ?_
  refine ak (ok_icmp_ne (off := 7) (by decide) (by decide +kernel)) ?_
  refine ak (ok_iconst (n := 1) (by decide) (by decide +kernel)) ?_
  refine ak (ok_goto (off := 4) (by decide) (by decide +kernel)) ?_
  refine ak (ok_iconst (n := 0) (by decide) (by decide +kernel)) ?_
  refine ak (ok_zreturn rfl (by decide +kernel)) ?_
  exact trivial
set_option maxRecDepth 1000000 in
theorem eK_isContract (x1 : Int32) (M : Mem) : run (cK_isContract) (fun _ _ _ _ => none) rtI 400 (seek (cK_isContract) 0) [aR (40, 0, 0), aI x1] [] M = mK_isContract x1 M := id rfl
theorem lK_isContract {E : EV} {l : Launch} {p : Program} {e : Env} {s : State} {m : MethodId} {args : Array Value} {below : List Frame} {meth : Method} {c : Code} (A : AllOK E l 2 "FreeLancesModel" prog_13_method_29_code 2 (some .boolean) outI (cK_isContract)) (C : Cx E p s m args meth c "FreeLancesModel" prog_13_method_29_code 2 (some .boolean)) : ∀ (x1 : Int32) (M : Mem) (res : (Int32 × Mem)), mK_isContract x1 M = some res → Wm E p l e 2 s m args below meth c 2 0 [aR (40, 0, 0), aI x1] [] M (outI res).1 (outI res).2 := by
  intro x1 M res h
  refine run_at C A rfl hrtI (n := 400) ((eK_isContract x1 M).trans h) ?_
  intro t als st M hk; cases hk
def dK_isContract {β : Type} : Den β := fun as M k => match as with
  | [.inr (.inr (.inl (al0, bl0, cl0))), .inl x1] => if al0 = 40 ∧ bl0 = 0 ∧ cl0 = 0 then (mK_isContract x1 M).bind fun q => k (aI q.1) q.2 else none
  | _ => none
theorem wK_isContract {E : EV} (hsd : E.2.2.2 = 1) (l : Launch) (x1 : Int32) (M : Mem) (q : (Int32 × Mem)) (hq : mK_isContract x1 M = some q) : Con E l 2 yK_isContract prog_13_method_29_code 2 (some .boolean) [aR (40, 0, 0), aI x1] M (outI q).1 (outI q).2 := by
  refine con_of iK_isContract (Nat.le_of_ble_eq_true rfl) ?_
  intro p e s m args below meth c C
  exact lK_isContract (oK_isContract hsd l) C x1 M _ hq
theorem kK_isContract {E : EV} (hsd : E.2.2.2 = 1) (l : Launch) {β : Type} : DenOK E l 2 yK_isContract prog_13_method_29_code 2 (some .boolean) true (dK_isContract (β := β)) := by
  intro as M k res h
  unfold dK_isContract at h
  split at h
  ·
    split at h
    · rename_i hc
      obtain ⟨rfl, rfl, rfl⟩ := hc
      obtain ⟨q, hq, hk⟩ := Option.bind_eq_some_iff.mp h
      exact ⟨aI q.1, q.2, hk, rfl, wK_isContract hsd l _ M q hq⟩
    · cases h
  · cases h
theorem qK_isContract {β : Type} : RecOK 40 (dK_isContract (β := β)) := by
  intro as M k res h
  unfold dK_isContract at h
  split at h
  ·
    split at h
    · rename_i hc
      obtain ⟨rfl, rfl, rfl⟩ := hc
      exact ⟨_, _, _, rfl⟩
    · cases h
  · cases h
/-! ===== FreeLancesModel.isIn(II)Z ===== -/
abbrev yK_isIn : MethodName := ⟨"FreeLancesModel", "isIn", "(II)Z"⟩
theorem iK_isIn : MI yK_isIn prog_13_method_30_code 3 (some .boolean) 2 := ⟨tw1425, tw108, ⟨by decide, by decide⟩, by decide +kernel, by decide, by decide⟩
def cK_isIn : List (Ent (Int32 × Mem)) := [(false, 0, 1, sLdI 2),
  (false, 1, 1, sLdA 0),
  (false, 2, 1, sLdI 1),
  (false, 3, 1, sC 2),
  (false, 4, 3, sInv 3 true dK_bond),
  (false, 7, 1, sLdA 0),
  (false, 8, 1, sLdI 1),
  (false, 9, 1, sC 3),
  (false, 10, 3, sInv 3 true dK_bond),
  (false, 13, 3, sInv 3 true dK_in),
  (false, 16, 3, sIfEq 27),
  (false, 19, 1, sLdI 2),
  (false, 20, 3, sIfLt 27),
  (false, 23, 1, sC 1),
  (false, 24, 3, sGoto 28),
  (false, 27, 1, sC 0),
  (false, 28, 1, sRetZ)]
theorem oK_isIn {E : EV} (hsd : E.2.2.2 = 1) (l : Launch) : AllOK E l 2 "FreeLancesModel" prog_13_method_30_code 3 (some .boolean) outI (cK_isIn) := by
  refine ak (ok_iload_n (k := 2) rfl (by decide +kernel)) ?_
  refine ak (ok_aload_n (k := 0) rfl (by decide +kernel)) ?_
  refine ak (ok_iload_n (k := 1) rfl (by decide +kernel)) ?_
  refine ak (ok_iconst (n := 2) (by decide) (by decide +kernel)) ?_
  refine ak (ok_invV (r := 40) (kK_bond hsd l) qK_bond ck11 kd40 iK_bond tw1420 tw49 (by decide) tw1418 (by decide +kernel)) ?_
  refine ak (ok_aload_n (k := 0) rfl (by decide +kernel)) ?_
  refine ak (ok_iload_n (k := 1) rfl (by decide +kernel)) ?_
  refine ak (ok_iconst (n := 3) (by decide) (by decide +kernel)) ?_
  refine ak (ok_invV (r := 40) (kK_bond hsd l) qK_bond ck11 kd40 iK_bond tw1420 tw49 (by decide) tw1418 (by decide +kernel)) ?_
  refine ak (ok_invS (kK_in hsd l) iK_in tw1330 (by decide) tw1329 (by decide +kernel)) ?_
  refine ak (ok_if_eq (off := 11) (by decide) (by decide +kernel)) ?_
  refine ak (ok_iload_n (k := 2) rfl (by decide +kernel)) ?_
  refine ak (ok_if_lt (off := 7) (by decide) (by decide +kernel)) ?_
  refine ak (ok_iconst (n := 1) (by decide) (by decide +kernel)) ?_
  refine ak (ok_goto (off := 4) (by decide) (by decide +kernel)) ?_
  refine ak (ok_iconst (n := 0) (by decide) (by decide +kernel)) ?_
  refine ak (ok_zreturn rfl (by decide +kernel)) ?_
  exact trivial
set_option maxRecDepth 1000000 in
theorem eK_isIn (x1 : Int32) (x2 : Int32) (M : Mem) : run (cK_isIn) (fun _ _ _ _ => none) rtI 400 (seek (cK_isIn) 0) [aR (40, 0, 0), aI x1, aI x2] [] M = mK_isIn x1 x2 M := id rfl
theorem lK_isIn {E : EV} {l : Launch} {p : Program} {e : Env} {s : State} {m : MethodId} {args : Array Value} {below : List Frame} {meth : Method} {c : Code} (A : AllOK E l 2 "FreeLancesModel" prog_13_method_30_code 3 (some .boolean) outI (cK_isIn)) (C : Cx E p s m args meth c "FreeLancesModel" prog_13_method_30_code 3 (some .boolean)) : ∀ (x1 : Int32) (x2 : Int32) (M : Mem) (res : (Int32 × Mem)), mK_isIn x1 x2 M = some res → Wm E p l e 2 s m args below meth c 3 0 [aR (40, 0, 0), aI x1, aI x2] [] M (outI res).1 (outI res).2 := by
  intro x1 x2 M res h
  refine run_at C A rfl hrtI (n := 400) ((eK_isIn x1 x2 M).trans h) ?_
  intro t als st M hk; cases hk
def dK_isIn {β : Type} : Den β := fun as M k => match as with
  | [.inr (.inr (.inl (al0, bl0, cl0))), .inl x1, .inl x2] => if al0 = 40 ∧ bl0 = 0 ∧ cl0 = 0 then (mK_isIn x1 x2 M).bind fun q => k (aI q.1) q.2 else none
  | _ => none
theorem wK_isIn {E : EV} (hsd : E.2.2.2 = 1) (l : Launch) (x1 : Int32) (x2 : Int32) (M : Mem) (q : (Int32 × Mem)) (hq : mK_isIn x1 x2 M = some q) : Con E l 2 yK_isIn prog_13_method_30_code 3 (some .boolean) [aR (40, 0, 0), aI x1, aI x2] M (outI q).1 (outI q).2 := by
  refine con_of iK_isIn (Nat.le_of_ble_eq_true rfl) ?_
  intro p e s m args below meth c C
  exact lK_isIn (oK_isIn hsd l) C x1 x2 M _ hq
theorem kK_isIn {E : EV} (hsd : E.2.2.2 = 1) (l : Launch) {β : Type} : DenOK E l 2 yK_isIn prog_13_method_30_code 3 (some .boolean) true (dK_isIn (β := β)) := by
  intro as M k res h
  unfold dK_isIn at h
  split at h
  ·
    split at h
    · rename_i hc
      obtain ⟨rfl, rfl, rfl⟩ := hc
      obtain ⟨q, hq, hk⟩ := Option.bind_eq_some_iff.mp h
      exact ⟨aI q.1, q.2, hk, rfl, wK_isIn hsd l _ _ M q hq⟩
    · cases h
  · cases h
theorem qK_isIn {β : Type} : RecOK 40 (dK_isIn (β := β)) := by
  intro as M k res h
  unfold dK_isIn at h
  split at h
  ·
    split at h
    · rename_i hc
      obtain ⟨rfl, rfl, rfl⟩ := hc
      exact ⟨_, _, _, rfl⟩
    · cases h
  · cases h
/-! ===== FreeLancesModel.servedOn(II)I ===== -/
abbrev yK_servedOn : MethodName := ⟨"FreeLancesModel", "servedOn", "(II)I"⟩
theorem iK_servedOn : MI yK_servedOn prog_13_method_31_code 4 (some .int) 2 := ⟨tw1413, tw108, ⟨by decide, by decide⟩, by decide +kernel, by decide, by decide⟩
def cK_servedOn : List (Ent (Int32 × Mem)) := [(false, 0, 1, sC 0),
  (false, 1, 1, sStI 3),
  (true, 2, 1, sLdI 3),
  (false, 3, 1, sLdA 0),
  (false, 4, 3, sGet 40 (fun w i M => aR (41, 0, 0))),
  (false, 7, 1, sC 5),
  (false, 8, 1, sIald 41 1502),
  (false, 9, 3, sCmpGe 52),
  (false, 12, 1, sLdA 0),
  (false, 13, 1, sLdI 3),
  (false, 14, 3, sInv 2 true dK_isContract),
  (false, 17, 3, sIfEq 46),
  (false, 20, 1, sLdA 0),
  (false, 21, 1, sLdI 3),
  (false, 22, 1, sC 1),
  (false, 23, 3, sInv 3 true dK_bond),
  (false, 26, 1, sLdI 1),
  (false, 27, 3, sCmpNe 46),
  (false, 30, 1, sLdA 0),
  (false, 31, 1, sLdI 3),
  (false, 32, 1, sLdI 2),
  (false, 33, 3, sInv 3 true dK_isIn),
  (false, 36, 3, sIfEq 46),
  (false, 39, 1, sLdA 0),
  (false, 40, 1, sLdI 3),
  (false, 41, 1, sC 5),
  (false, 42, 3, sInv 3 true dK_bond),
  (false, 45, 1, sRetI),
  (false, 46, 3, sInc 3 1),
  (false, 49, 3, sGoto 2),
  (false, 52, 1, sC (-1)),
  (false, 53, 1, sRetI)]
theorem oK_servedOn {E : EV} (hsd : E.2.2.2 = 1) (l : Launch) : AllOK E l 3 "FreeLancesModel" prog_13_method_31_code 4 (some .int) outI (cK_servedOn) := by
  refine ak (ok_iconst (n := 0) (by decide) (by decide +kernel)) ?_
  refine ak (ok_istore_n (k := 3) rfl (by decide) (by decide +kernel)) ?_
  refine ak (ok_iload_n (k := 3) rfl (by decide +kernel)) ?_
  refine ak (ok_aload_n (k := 0) rfl (by decide +kernel)) ?_
  refine ak (ok_get (k := 0) ck11 kd40 (by decide) (fun _ _ _ => rfl) (vf_40_0 hsd) tw1242 (by decide +kernel)) ?_
  refine ak (ok_iconst (n := 5) (by decide) (by decide +kernel)) ?_
  refine ak (ok_iald kd41 (by decide) (by decide +kernel)) ?_
  refine ak (ok_icmp_ge (off := 43) (by decide) (by decide +kernel)) ?_
  refine ak (ok_aload_n (k := 0) rfl (by decide +kernel)) ?_
  refine ak (ok_iload_n (k := 3) rfl (by decide +kernel)) ?_
  refine ak (ok_invV (r := 40) (kK_isContract hsd l) qK_isContract ck11 kd40 iK_isContract tw1416 tw48 (by decide) tw1414 (by decide +kernel)) ?_
  refine ak (ok_if_eq (off := 29) (by decide) (by decide +kernel)) ?_
  refine ak (ok_aload_n (k := 0) rfl (by decide +kernel)) ?_
  refine ak (ok_iload_n (k := 3) rfl (by decide +kernel)) ?_
  refine ak (ok_iconst (n := 1) (by decide) (by decide +kernel)) ?_
  refine ak (ok_invV (r := 40) (kK_bond hsd l) qK_bond ck11 kd40 iK_bond tw1420 tw49 (by decide) tw1418 (by decide +kernel)) ?_
  refine ak (ok_iload_n (k := 1) rfl (by decide +kernel)) ?_
  refine ak (ok_icmp_ne (off := 19) (by decide) (by decide +kernel)) ?_
  refine ak (ok_aload_n (k := 0) rfl (by decide +kernel)) ?_
  refine ak (ok_iload_n (k := 3) rfl (by decide +kernel)) ?_
  refine ak (ok_iload_n (k := 2) rfl (by decide +kernel)) ?_
  refine ak (ok_invV (r := 40) (kK_isIn hsd l) qK_isIn ck11 kd40 iK_isIn tw1424 tw50 (by decide) tw1422 (by decide +kernel)) ?_
  refine ak (ok_if_eq (off := 10) (by decide) (by decide +kernel)) ?_
  refine ak (ok_aload_n (k := 0) rfl (by decide +kernel)) ?_
  refine ak (ok_iload_n (k := 3) rfl (by decide +kernel)) ?_
  refine ak (ok_iconst (n := 5) (by decide) (by decide +kernel)) ?_
  refine ak (ok_invV (r := 40) (kK_bond hsd l) qK_bond ck11 kd40 iK_bond tw1420 tw49 (by decide) tw1418 (by decide +kernel)) ?_
  refine ak (ok_ireturn rfl (by decide +kernel)) ?_
  refine ak (ok_iinc (n := 1) (by decide) (by decide) (by decide +kernel)) ?_
  refine ak (ok_goto (off := (-47)) (by decide) (by decide +kernel)) ?_
  refine ak (ok_iconst (n := (-1)) (by decide) (by decide +kernel)) ?_
  refine ak (ok_ireturn rfl (by decide +kernel)) ?_
  exact trivial
def KK_servedOn_2 (j2 : Int32 → Int32 → Int32 → Mem → Option (Int32 × Mem)) : Jm (Int32 × Mem) := fun t als st M =>
  if t = 2 then (match als, st with
  | [.inr (.inr (.inl (al0, bl0, cl0))), .inl x1, .inl x2, .inl x3], [] => if al0 = 40 ∧ bl0 = 0 ∧ cl0 = 0 then j2 x1 x2 x3 M else none
  | _, _ => none) else
  none
set_option maxRecDepth 1000000 in
theorem eK_servedOn_2 (j2 : Int32 → Int32 → Int32 → Mem → Option (Int32 × Mem)) (x1 : Int32) (x2 : Int32) (x3 : Int32) (M : Mem) : run (cK_servedOn) (KK_servedOn_2 j2) rtI 400 (seek (cK_servedOn) 2) [aR (40, 0, 0), aI x1, aI x2, aI x3] [] M = mK_servedOn_2b j2 x1 x2 x3 M := id rfl
theorem lK_servedOn_2 {E : EV} {l : Launch} {p : Program} {e : Env} {s : State} {m : MethodId} {args : Array Value} {below : List Frame} {meth : Method} {c : Code} (A : AllOK E l 3 "FreeLancesModel" prog_13_method_31_code 4 (some .int) outI (cK_servedOn)) (C : Cx E p s m args meth c "FreeLancesModel" prog_13_method_31_code 4 (some .int)) : ∀ (n : Nat), ∀ (x1 : Int32) (x2 : Int32) (x3 : Int32) (M : Mem) (res : (Int32 × Mem)), mK_servedOn_2 n x1 x2 x3 M = some res → Wm E p l e 3 s m args below meth c 4 2 [aR (40, 0, 0), aI x1, aI x2, aI x3] [] M (outI res).1 (outI res).2 := by
  intro n
  induction n with
  | zero => intro _ _ _ M res h; cases h
  | succ n ih =>
    intro x1 x2 x3 M res h
    refine run_at C A rfl hrtI (n := 400) ((eK_servedOn_2 (mK_servedOn_2 n) x1 x2 x3 M).trans h) ?_
    intro t als st M hk
    unfold KK_servedOn_2 at hk
    split at hk
    · rename_i ht
      subst ht
      split at hk
      · split at hk
        · rename_i hc
          obtain ⟨rfl, rfl, rfl⟩ := hc
          exact ih _ _ _ _ _ hk
        · cases hk
      · cases hk
    cases hk
def KK_servedOn (j2 : Int32 → Int32 → Int32 → Mem → Option (Int32 × Mem)) : Jm (Int32 × Mem) := fun t als st M =>
  if t = 2 then (match als, st with
  | [.inr (.inr (.inl (al0, bl0, cl0))), .inl x1, .inl x2, .inl x3], [] => if al0 = 40 ∧ bl0 = 0 ∧ cl0 = 0 then j2 x1 x2 x3 M else none
  | _, _ => none) else
  none
set_option maxRecDepth 1000000 in
theorem eK_servedOn (j2 : Int32 → Int32 → Int32 → Mem → Option (Int32 × Mem)) (x1 : Int32) (x2 : Int32) (M : Mem) : run (cK_servedOn) (KK_servedOn j2) rtI 400 (seek (cK_servedOn) 0) [aR (40, 0, 0), aI x1, aI x2, aU] [] M = mK_servedOnb j2 x1 x2 M := id rfl
theorem lK_servedOn {E : EV} {l : Launch} {p : Program} {e : Env} {s : State} {m : MethodId} {args : Array Value} {below : List Frame} {meth : Method} {c : Code} (A : AllOK E l 3 "FreeLancesModel" prog_13_method_31_code 4 (some .int) outI (cK_servedOn)) (C : Cx E p s m args meth c "FreeLancesModel" prog_13_method_31_code 4 (some .int)) : ∀ (x1 : Int32) (x2 : Int32) (M : Mem) (res : (Int32 × Mem)), mK_servedOn x1 x2 M = some res → Wm E p l e 3 s m args below meth c 4 0 [aR (40, 0, 0), aI x1, aI x2, aU] [] M (outI res).1 (outI res).2 := by
  intro x1 x2 M res h
  refine run_at C A rfl hrtI (n := 400) ((eK_servedOn (mK_servedOn_2 fuel) x1 x2 M).trans h) ?_
  intro t als st M hk
  unfold KK_servedOn at hk
  split at hk
  · rename_i ht
    subst ht
    split at hk
    · split at hk
      · rename_i hc
        obtain ⟨rfl, rfl, rfl⟩ := hc
        exact lK_servedOn_2 A C _ _ _ _ _ _ hk
      · cases hk
    · cases hk
  cases hk
def dK_servedOn {β : Type} : Den β := fun as M k => match as with
  | [.inr (.inr (.inl (al0, bl0, cl0))), .inl x1, .inl x2] => if al0 = 40 ∧ bl0 = 0 ∧ cl0 = 0 then (mK_servedOn x1 x2 M).bind fun q => k (aI q.1) q.2 else none
  | _ => none
theorem wK_servedOn {E : EV} (hsd : E.2.2.2 = 1) (l : Launch) (x1 : Int32) (x2 : Int32) (M : Mem) (q : (Int32 × Mem)) (hq : mK_servedOn x1 x2 M = some q) : Con E l 3 yK_servedOn prog_13_method_31_code 4 (some .int) [aR (40, 0, 0), aI x1, aI x2] M (outI q).1 (outI q).2 := by
  refine con_of iK_servedOn (Nat.le_of_ble_eq_true rfl) ?_
  intro p e s m args below meth c C
  exact lK_servedOn (oK_servedOn hsd l) C x1 x2 M _ hq
theorem kK_servedOn {E : EV} (hsd : E.2.2.2 = 1) (l : Launch) {β : Type} : DenOK E l 3 yK_servedOn prog_13_method_31_code 4 (some .int) true (dK_servedOn (β := β)) := by
  intro as M k res h
  unfold dK_servedOn at h
  split at h
  ·
    split at h
    · rename_i hc
      obtain ⟨rfl, rfl, rfl⟩ := hc
      obtain ⟨q, hq, hk⟩ := Option.bind_eq_some_iff.mp h
      exact ⟨aI q.1, q.2, hk, rfl, wK_servedOn hsd l _ _ M q hq⟩
    · cases h
  · cases h
theorem qK_servedOn {β : Type} : RecOK 40 (dK_servedOn (β := β)) := by
  intro as M k res h
  unfold dK_servedOn at h
  split at h
  ·
    split at h
    · rename_i hc
      obtain ⟨rfl, rfl, rfl⟩ := hc
      exact ⟨_, _, _, rfl⟩
    · cases h
  · cases h
/-! ===== FreeLancesModel.about(II)I ===== -/
abbrev yK_about : MethodName := ⟨"FreeLancesModel", "about", "(II)I"⟩
theorem iK_about : MI yK_about prog_13_method_32_code 3 (some .int) 2 := ⟨tw1401, tw108, ⟨by decide, by decide⟩, by decide +kernel, by decide, by decide⟩
def cK_about : List (Ent (Int32 × Mem)) := [(false, 0, 1, sLdA 0),
  (false, 1, 1, sLdI 1),
  (false, 2, 3, sInv 2 true dK_isCompany),
  (false, 5, 3, sIfNe 14),
  (false, 8, 1, sLdA 0),
  (false, 9, 1, sC 1),
  (false, 10, 3, sInv 2 true dK_finds),
  (false, 13, 1, sRetI),
  (false, 14, 1, sLdI 2),
  (false, 15, 49, sSw 135 [(0, 64), (1, 71), (2, 78), (3, 85), (4, 92), (5, 99), (6, 106), (7, 119), (8, 127)]),
  (false, 64, 1, sLdA 0),
  (false, 65, 1, sLdI 1),
  (false, 66, 1, sC 2),
  (false, 67, 3, sInv 3 true dK_own),
  (false, 70, 1, sRetI),
  (false, 71, 1, sLdA 0),
  (false, 72, 1, sLdI 1),
  (false, 73, 1, sC 0),
  (false, 74, 3, sInv 3 true dK_own),
  (false, 77, 1, sRetI),
  (false, 78, 1, sLdA 0),
  (false, 79, 1, sLdI 1),
  (false, 80, 1, sC 1),
  (false, 81, 3, sInv 3 true dK_own),
  (false, 84, 1, sRetI),
  (false, 85, 1, sLdA 0),
  (false, 86, 1, sLdI 1),
  (false, 87, 1, sC 5),
  (false, 88, 3, sInv 3 true dK_own),
  (false, 91, 1, sRetI),
  (false, 92, 1, sLdA 0),
  (false, 93, 1, sLdI 1),
  (false, 94, 1, sC 0),
  (false, 95, 3, sInv 3 true dK_manySo),
  (false, 98, 1, sRetI),
  (false, 99, 1, sLdA 0),
  (false, 100, 1, sLdI 1),
  (false, 101, 1, sC 1),
  (false, 102, 3, sInv 3 true dK_manySo),
  (false, 105, 1, sRetI),
  (false, 106, 1, sLdA 0),
  (false, 107, 1, sLdI 1),
  (false, 108, 1, sLdA 0),
  (false, 109, 3, sGet 40 (fun w i M => aR (41, 0, 0))),
  (false, 112, 2, sC 6),
  (false, 114, 1, sIald 41 1502),
  (false, 115, 3, sInv 3 true dK_servedOn),
  (false, 118, 1, sRetI),
  (false, 119, 1, sLdA 0),
  (false, 120, 1, sLdI 1),
  (false, 121, 2, sC 6),
  (false, 123, 3, sInv 3 true dK_own),
  (false, 126, 1, sRetI),
  (false, 127, 1, sLdA 0),
  (false, 128, 1, sLdI 1),
  (false, 129, 2, sC 7),
  (false, 131, 3, sInv 3 true dK_own),
  (false, 134, 1, sRetI),
  (false, 135, 1, sLdA 0),
  (false, 136, 1, sC 1),
  (false, 137, 3, sInv 2 true dK_finds),
  (false, 140, 1, sRetI)]
theorem oK_about {E : EV} (hsd : E.2.2.2 = 1) (l : Launch) : AllOK E l 4 "FreeLancesModel" prog_13_method_32_code 3 (some .int) outI (cK_about) := by
  refine ak (ok_aload_n (k := 0) rfl (by decide +kernel)) ?_
  refine ak (ok_iload_n (k := 1) rfl (by decide +kernel)) ?_
  refine ak (ok_invV (r := 40) (kK_isCompany hsd l) qK_isCompany ck11 kd40 iK_isCompany tw1392 tw44 (by decide) tw1390 (by decide +kernel)) ?_
  refine ak (ok_if_ne (off := 9) (by decide) (by decide +kernel)) ?_
  refine ak (ok_aload_n (k := 0) rfl (by decide +kernel)) ?_
  refine ak (ok_iconst (n := 1) (by decide) (by decide +kernel)) ?_
  refine ak (ok_invV (r := 40) (kK_finds hsd l) qK_finds ck11 kd40 iK_finds tw1334 tw37 (by decide) tw1332 (by decide +kernel)) ?_
  refine ak (ok_ireturn rfl (by decide +kernel)) ?_
  refine ak (ok_iload_n (k := 2) rfl (by decide +kernel)) ?_
  refine ak (ok_table (df := 120) (lo := 0) (hi := 8) (offs := #[49, 56, 63, 70, 77, 84, 91, 104, 112]) (by decide) (by decide) (by decide) (by decide +kernel)) ?_
  refine ak (ok_aload_n (k := 0) rfl (by decide +kernel)) ?_
  refine ak (ok_iload_n (k := 1) rfl (by decide +kernel)) ?_
  refine ak (ok_iconst (n := 2) (by decide) (by decide +kernel)) ?_
  refine ak (ok_invV (r := 40) (kK_own hsd l) qK_own ck11 kd40 iK_own tw1363 tw41 (by decide) tw1361 (by decide +kernel)) ?_
  refine ak (ok_ireturn rfl (by decide +kernel)) ?_
  refine ak (ok_aload_n (k := 0) rfl (by decide +kernel)) ?_
  refine ak (ok_iload_n (k := 1) rfl (by decide +kernel)) ?_
  refine ak (ok_iconst (n := 0) (by decide) (by decide +kernel)) ?_
  refine ak (ok_invV (r := 40) (kK_own hsd l) qK_own ck11 kd40 iK_own tw1363 tw41 (by decide) tw1361 (by decide +kernel)) ?_
  refine ak (ok_ireturn rfl (by decide +kernel)) ?_
  refine ak (ok_aload_n (k := 0) rfl (by decide +kernel)) ?_
  refine ak (ok_iload_n (k := 1) rfl (by decide +kernel)) ?_
  refine ak (ok_iconst (n := 1) (by decide) (by decide +kernel)) ?_
  refine ak (ok_invV (r := 40) (kK_own hsd l) qK_own ck11 kd40 iK_own tw1363 tw41 (by decide) tw1361 (by decide +kernel)) ?_
  refine ak (ok_ireturn rfl (by decide +kernel)) ?_
  refine ak (ok_aload_n (k := 0) rfl (by decide +kernel)) ?_
  refine ak (ok_iload_n (k := 1) rfl (by decide +kernel)) ?_
  refine ak (ok_iconst (n := 5) (by decide) (by decide +kernel)) ?_
  refine ak (ok_invV (r := 40) (kK_own hsd l) qK_own ck11 kd40 iK_own tw1363 tw41 (by decide) tw1361 (by decide +kernel)) ?_
  refine ak (ok_ireturn rfl (by decide +kernel)) ?_
  refine ak (ok_aload_n (k := 0) rfl (by decide +kernel)) ?_
  refine ak (ok_iload_n (k := 1) rfl (by decide +kernel)) ?_
  refine ak (ok_iconst (n := 0) (by decide) (by decide +kernel)) ?_
  refine ak (ok_invV (r := 40) (kK_manySo hsd l) qK_manySo ck11 kd40 iK_manySo tw1404 tw45 (by decide) tw1402 (by decide +kernel)) ?_
  refine ak (ok_ireturn rfl (by decide +kernel)) ?_
  refine ak (ok_aload_n (k := 0) rfl (by decide +kernel)) ?_
  refine ak (ok_iload_n (k := 1) rfl (by decide +kernel)) ?_
  refine ak (ok_iconst (n := 1) (by decide) (by decide +kernel)) ?_
  refine ak (ok_invV (r := 40) (kK_manySo hsd l) qK_manySo ck11 kd40 iK_manySo tw1404 tw45 (by decide) tw1402 (by decide +kernel)) ?_
  refine ak (ok_ireturn rfl (by decide +kernel)) ?_
  refine ak (ok_aload_n (k := 0) rfl (by decide +kernel)) ?_
  refine ak (ok_iload_n (k := 1) rfl (by decide +kernel)) ?_
  refine ak (ok_aload_n (k := 0) rfl (by decide +kernel)) ?_
  refine ak (ok_get (k := 0) ck11 kd40 (by decide) (fun _ _ _ => rfl) (vf_40_0 hsd) tw1242 (by decide +kernel)) ?_
  refine ak (ok_bipush (n := 6) (by decide) (by decide +kernel)) ?_
  refine ak (ok_iald kd41 (by decide) (by decide +kernel)) ?_
  refine ak (ok_invV (r := 40) (kK_servedOn hsd l) qK_servedOn ck11 kd40 iK_servedOn tw1412 tw47 (by decide) tw1410 (by decide +kernel)) ?_
  refine ak (ok_ireturn rfl (by decide +kernel)) ?_
  refine ak (ok_aload_n (k := 0) rfl (by decide +kernel)) ?_
  refine ak (ok_iload_n (k := 1) rfl (by decide +kernel)) ?_
  refine ak (ok_bipush (n := 6) (by decide) (by decide +kernel)) ?_
  refine ak (ok_invV (r := 40) (kK_own hsd l) qK_own ck11 kd40 iK_own tw1363 tw41 (by decide) tw1361 (by decide +kernel)) ?_
  refine ak (ok_ireturn rfl (by decide +kernel)) ?_
  refine ak (ok_aload_n (k := 0) rfl (by decide +kernel)) ?_
  refine ak (ok_iload_n (k := 1) rfl (by decide +kernel)) ?_
  refine ak (ok_bipush (n := 7) (by decide) (by decide +kernel)) ?_
  refine ak (ok_invV (r := 40) (kK_own hsd l) qK_own ck11 kd40 iK_own tw1363 tw41 (by decide) tw1361 (by decide +kernel)) ?_
  refine ak (ok_ireturn rfl (by decide +kernel)) ?_
  refine ak (ok_aload_n (k := 0) rfl (by decide +kernel)) ?_
  refine ak (ok_iconst (n := 1) (by decide) (by decide +kernel)) ?_
  refine ak (ok_invV (r := 40) (kK_finds hsd l) qK_finds ck11 kd40 iK_finds tw1334 tw37 (by decide) tw1332 (by decide +kernel)) ?_
  refine ak (ok_ireturn rfl (by decide +kernel)) ?_
  exact trivial
set_option maxRecDepth 1000000 in
theorem eK_about (x1 : Int32) (x2 : Int32) (M : Mem) : run (cK_about) (fun _ _ _ _ => none) rtI 400 (seek (cK_about) 0) [aR (40, 0, 0), aI x1, aI x2] [] M = mK_about x1 x2 M := id rfl
theorem lK_about {E : EV} {l : Launch} {p : Program} {e : Env} {s : State} {m : MethodId} {args : Array Value} {below : List Frame} {meth : Method} {c : Code} (A : AllOK E l 4 "FreeLancesModel" prog_13_method_32_code 3 (some .int) outI (cK_about)) (C : Cx E p s m args meth c "FreeLancesModel" prog_13_method_32_code 3 (some .int)) : ∀ (x1 : Int32) (x2 : Int32) (M : Mem) (res : (Int32 × Mem)), mK_about x1 x2 M = some res → Wm E p l e 4 s m args below meth c 3 0 [aR (40, 0, 0), aI x1, aI x2] [] M (outI res).1 (outI res).2 := by
  intro x1 x2 M res h
  refine run_at C A rfl hrtI (n := 400) ((eK_about x1 x2 M).trans h) ?_
  intro t als st M hk; cases hk
def dK_about {β : Type} : Den β := fun as M k => match as with
  | [.inr (.inr (.inl (al0, bl0, cl0))), .inl x1, .inl x2] => if al0 = 40 ∧ bl0 = 0 ∧ cl0 = 0 then (mK_about x1 x2 M).bind fun q => k (aI q.1) q.2 else none
  | _ => none
theorem wK_about {E : EV} (hsd : E.2.2.2 = 1) (l : Launch) (x1 : Int32) (x2 : Int32) (M : Mem) (q : (Int32 × Mem)) (hq : mK_about x1 x2 M = some q) : Con E l 4 yK_about prog_13_method_32_code 3 (some .int) [aR (40, 0, 0), aI x1, aI x2] M (outI q).1 (outI q).2 := by
  refine con_of iK_about (Nat.le_of_ble_eq_true rfl) ?_
  intro p e s m args below meth c C
  exact lK_about (oK_about hsd l) C x1 x2 M _ hq
theorem kK_about {E : EV} (hsd : E.2.2.2 = 1) (l : Launch) {β : Type} : DenOK E l 4 yK_about prog_13_method_32_code 3 (some .int) true (dK_about (β := β)) := by
  intro as M k res h
  unfold dK_about at h
  split at h
  ·
    split at h
    · rename_i hc
      obtain ⟨rfl, rfl, rfl⟩ := hc
      obtain ⟨q, hq, hk⟩ := Option.bind_eq_some_iff.mp h
      exact ⟨aI q.1, q.2, hk, rfl, wK_about hsd l _ _ M q hq⟩
    · cases h
  · cases h
theorem qK_about {β : Type} : RecOK 40 (dK_about (β := β)) := by
  intro as M k res h
  unfold dK_about at h
  split at h
  ·
    split at h
    · rename_i hc
      obtain ⟨rfl, rfl, rfl⟩ := hc
      exact ⟨_, _, _, rfl⟩
    · cases h
  · cases h
/-! ===== FreeLancesModel.lance(III)I ===== -/
abbrev yK_lance : MethodName := ⟨"FreeLancesModel", "lance", "(III)I"⟩
theorem iK_lance : MI yK_lance prog_13_method_33_code 5 (some .int) 3 := ⟨tw1429, tw108, ⟨by decide, by decide⟩, by decide +kernel, by decide, by decide⟩
def cK_lance : List (Ent (Int32 × Mem)) := [(false, 0, 1, sLdA 0),
  (false, 1, 1, sLdI 1),
  (false, 2, 3, sInv 2 true dK_isCompany),
  (false, 5, 3, sIfEq 30),
  (false, 8, 1, sLdI 2),
  (false, 9, 1, sC 0),
  (false, 10, 2, sC 99),
  (false, 12, 3, sInv 3 true dK_in),
  (false, 15, 3, sIfEq 30),
  (false, 18, 1, sLdI 3),
  (false, 19, 2, sC 100),
  (false, 21, 3, sC 180),
  (false, 24, 3, sInv 3 true dK_in),
  (false, 27, 3, sIfNe 36),
  (false, 30, 1, sLdA 0),
  (false, 31, 1, sC 1),
  (false, 32, 3, sInv 2 true dK_finds),
  (false, 35, 1, sRetI),
  (false, 36, 1, sLdA 0),
  (false, 37, 3, sGet 40 (fun w i M => aR (41, 0, 0))),
  (false, 40, 1, sC 3),
  (false, 41, 1, sIald 41 1502),
  (false, 42, 2, sStI 4),
  (false, 44, 2, sLdI 4),
  (false, 46, 2, sC 40),
  (false, 48, 3, sCmpNe 57),
  (false, 51, 1, sLdA 0),
  (false, 52, 1, sC 4),
  (false, 53, 3, sInv 2 true dK_finds),
  (false, 56, 1, sRetI),
  (false, 57, 1, sLdA 0),
  (false, 58, 3, sGet 40 (fun w i M => aR (41, 0, 0))),
  (false, 61, 1, sC 3),
  (false, 62, 1, sDup2),
  (false, 63, 1, sIald 41 1502),
  (false, 64, 1, sC 1),
  (false, 65, 1, sBin (fun x y => x + y)),
  (false, 66, 1, sIast 41 1502),
  (false, 67, 1, sLdA 0),
  (false, 68, 3, sGet 40 (fun w i M => aR (41, 0, 0))),
  (false, 71, 3, sC 220),
  (false, 74, 1, sC 5),
  (false, 75, 2, sLdI 4),
  (false, 77, 1, sBin (fun x y => x * y)),
  (false, 78, 1, sBin (fun x y => x + y)),
  (false, 79, 1, sLdI 1),
  (false, 80, 1, sIast 41 1502),
  (false, 81, 1, sLdA 0),
  (false, 82, 3, sGet 40 (fun w i M => aR (41, 0, 0))),
  (false, 85, 3, sC 220),
  (false, 88, 1, sC 5),
  (false, 89, 2, sLdI 4),
  (false, 91, 1, sBin (fun x y => x * y)),
  (false, 92, 1, sBin (fun x y => x + y)),
  (false, 93, 1, sC 1),
  (false, 94, 1, sBin (fun x y => x + y)),
  (false, 95, 1, sLdI 2),
  (false, 96, 1, sIast 41 1502),
  (false, 97, 1, sLdA 0),
  (false, 98, 3, sGet 40 (fun w i M => aR (41, 0, 0))),
  (false, 101, 3, sC 220),
  (false, 104, 1, sC 5),
  (false, 105, 2, sLdI 4),
  (false, 107, 1, sBin (fun x y => x * y)),
  (false, 108, 1, sBin (fun x y => x + y)),
  (false, 109, 1, sC 2),
  (false, 110, 1, sBin (fun x y => x + y)),
  (false, 111, 1, sLdI 3),
  (false, 112, 1, sIast 41 1502),
  (false, 113, 1, sLdA 0),
  (false, 114, 3, sGet 40 (fun w i M => aR (41, 0, 0))),
  (false, 117, 3, sC 220),
  (false, 120, 1, sC 5),
  (false, 121, 2, sLdI 4),
  (false, 123, 1, sBin (fun x y => x * y)),
  (false, 124, 1, sBin (fun x y => x + y)),
  (false, 125, 1, sC 3),
  (false, 126, 1, sBin (fun x y => x + y)),
  (false, 127, 1, sC 0),
  (false, 128, 1, sIast 41 1502),
  (false, 129, 1, sLdA 0),
  (false, 130, 3, sGet 40 (fun w i M => aR (41, 0, 0))),
  (false, 133, 3, sC 220),
  (false, 136, 1, sC 5),
  (false, 137, 2, sLdI 4),
  (false, 139, 1, sBin (fun x y => x * y)),
  (false, 140, 1, sBin (fun x y => x + y)),
  (false, 141, 1, sC 4),
  (false, 142, 1, sBin (fun x y => x + y)),
  (false, 143, 1, sC (-1)),
  (false, 144, 1, sIast 41 1502),
  (false, 145, 2, sLdI 4),
  (false, 147, 1, sRetI)]
theorem oK_lance {E : EV} (hsd : E.2.2.2 = 1) (l : Launch) : AllOK E l 3 "FreeLancesModel" prog_13_method_33_code 5 (some .int) outI (cK_lance) := by
  refine ak (ok_aload_n (k := 0) rfl (by decide +kernel)) ?_
  refine ak (ok_iload_n (k := 1) rfl (by decide +kernel)) ?_
  refine ak (ok_invV (r := 40) (kK_isCompany hsd l) qK_isCompany ck11 kd40 iK_isCompany tw1392 tw44 (by decide) tw1390 (by decide +kernel)) ?_
  refine ak (ok_if_eq (off := 25) (by decide) (by decide +kernel)) ?_
  refine ak (ok_iload_n (k := 2) rfl (by decide +kernel)) ?_
  refine ak (ok_iconst (n := 0) (by decide) (by decide +kernel)) ?_
  refine ak (ok_bipush (n := 99) (by decide) (by decide +kernel)) ?_
  refine ak (ok_invS (kK_in hsd l) iK_in tw1330 (by decide) tw1329 (by decide +kernel)) ?_
  refine ak (ok_if_eq (off := 15) (by decide) (by decide +kernel)) ?_
  refine ak (ok_iload_n (k := 3) rfl (by decide +kernel)) ?_
  refine ak (ok_bipush (n := 100) (by decide) (by decide +kernel)) ?_
  refine ak (ok_sipush (n := 180) (by decide) (by decide +kernel)) ?_
  refine ak (ok_invS (kK_in hsd l) iK_in tw1330 (by decide) tw1329 (by decide +kernel)) ?_
  refine ak (ok_if_ne (off := 9) (by decide) (by decide +kernel)) ?_
  refine ak (ok_aload_n (k := 0) rfl (by decide +kernel)) ?_
  refine ak (ok_iconst (n := 1) (by decide) (by decide +kernel)) ?_
  refine ak (ok_invV (r := 40) (kK_finds hsd l) qK_finds ck11 kd40 iK_finds tw1334 tw37 (by decide) tw1332 (by decide +kernel)) ?_
  refine ak (ok_ireturn rfl (by decide +kernel)) ?_
  refine ak (ok_aload_n (k := 0) rfl (by decide +kernel)) ?_
  refine ak (ok_get (k := 0) ck11 kd40 (by decide) (fun _ _ _ => rfl) (vf_40_0 hsd) tw1242 (by decide +kernel)) ?_
  refine ak (ok_iconst (n := 3) (by decide) (by decide +kernel)) ?_
  refine ak (ok_iald kd41 (by decide) (by decide +kernel)) ?_
  refine ak (ok_istore (by decide) (by decide +kernel)) ?_
  refine ak (ok_iload (by decide +kernel)) ?_
  refine ak (ok_bipush (n := 40) (by decide) (by decide +kernel)) ?_
  refine ak (ok_icmp_ne (off := 9) (by decide) (by decide +kernel)) ?_
  refine ak (ok_aload_n (k := 0) rfl (by decide +kernel)) ?_
  refine ak (ok_iconst (n := 4) (by decide) (by decide +kernel)) ?_
  refine ak (ok_invV (r := 40) (kK_finds hsd l) qK_finds ck11 kd40 iK_finds tw1334 tw37 (by decide) tw1332 (by decide +kernel)) ?_
  refine ak (ok_ireturn rfl (by decide +kernel)) ?_
  refine ak (ok_aload_n (k := 0) rfl (by decide +kernel)) ?_
  refine ak (ok_get (k := 0) ck11 kd40 (by decide) (fun _ _ _ => rfl) (vf_40_0 hsd) tw1242 (by decide +kernel)) ?_
  refine ak (ok_iconst (n := 3) (by decide) (by decide +kernel)) ?_
  refine ak (ok_dup2 (by decide +kernel)) ?_
  refine ak (ok_iald kd41 (by decide) (by decide +kernel)) ?_
  refine ak (ok_iconst (n := 1) (by decide) (by decide +kernel)) ?_
  refine ak (ok_iadd (by decide +kernel)) ?_
  refine ak (ok_iast kd41 (by decide) (by decide) (by decide +kernel)) ?_
  refine ak (ok_aload_n (k := 0) rfl (by decide +kernel)) ?_
  refine ak (ok_get (k := 0) ck11 kd40 (by decide) (fun _ _ _ => rfl) (vf_40_0 hsd) tw1242 (by decide +kernel)) ?_
  refine ak (ok_sipush (n := 220) (by decide) (by decide +kernel)) ?_
  refine ak (ok_iconst (n := 5) (by decide) (by decide +kernel)) ?_
  refine ak (ok_iload (by decide +kernel)) ?_
  refine ak (ok_imul (by decide +kernel)) ?_
  refine ak (ok_iadd (by decide +kernel)) ?_
  refine ak (ok_iload_n (k := 1) rfl (by decide +kernel)) ?_
  refine ak (ok_iast kd41 (by decide) (by decide) (by decide +kernel)) ?_
  refine ak (ok_aload_n (k := 0) rfl (by decide +kernel)) ?_
  refine ak (ok_get (k := 0) ck11 kd40 (by decide) (fun _ _ _ => rfl) (vf_40_0 hsd) tw1242 (by decide +kernel)) ?_
  refine ak (ok_sipush (n := 220) (by decide) (by decide +kernel)) ?_
  refine ak (ok_iconst (n := 5) (by decide) (by decide +kernel)) ?_
  refine ak (ok_iload (by decide +kernel)) ?_
  refine ak (ok_imul (by decide +kernel)) ?_
  refine ak (ok_iadd (by decide +kernel)) ?_
  refine ak (ok_iconst (n := 1) (by decide) (by decide +kernel)) ?_
  refine ak (ok_iadd (by decide +kernel)) ?_
  refine ak (ok_iload_n (k := 2) rfl (by decide +kernel)) ?_
  refine ak (ok_iast kd41 (by decide) (by decide) (by decide +kernel)) ?_
  refine ak (ok_aload_n (k := 0) rfl (by decide +kernel)) ?_
  refine ak (ok_get (k := 0) ck11 kd40 (by decide) (fun _ _ _ => rfl) (vf_40_0 hsd) tw1242 (by decide +kernel)) ?_
  refine ak (ok_sipush (n := 220) (by decide) (by decide +kernel)) ?_
  refine ak (ok_iconst (n := 5) (by decide) (by decide +kernel)) ?_
  refine ak (ok_iload (by decide +kernel)) ?_
  refine ak (ok_imul (by decide +kernel)) ?_
  refine ak (ok_iadd (by decide +kernel)) ?_
  refine ak (ok_iconst (n := 2) (by decide) (by decide +kernel)) ?_
  refine ak (ok_iadd (by decide +kernel)) ?_
  refine ak (ok_iload_n (k := 3) rfl (by decide +kernel)) ?_
  refine ak (ok_iast kd41 (by decide) (by decide) (by decide +kernel)) ?_
  refine ak (ok_aload_n (k := 0) rfl (by decide +kernel)) ?_
  refine ak (ok_get (k := 0) ck11 kd40 (by decide) (fun _ _ _ => rfl) (vf_40_0 hsd) tw1242 (by decide +kernel)) ?_
  refine ak (ok_sipush (n := 220) (by decide) (by decide +kernel)) ?_
  refine ak (ok_iconst (n := 5) (by decide) (by decide +kernel)) ?_
  refine ak (ok_iload (by decide +kernel)) ?_
  refine ak (ok_imul (by decide +kernel)) ?_
  refine ak (ok_iadd (by decide +kernel)) ?_
  refine ak (ok_iconst (n := 3) (by decide) (by decide +kernel)) ?_
  refine ak (ok_iadd (by decide +kernel)) ?_
  refine ak (ok_iconst (n := 0) (by decide) (by decide +kernel)) ?_
  refine ak (ok_iast kd41 (by decide) (by decide) (by decide +kernel)) ?_
  refine ak (ok_aload_n (k := 0) rfl (by decide +kernel)) ?_
  refine ak (ok_get (k := 0) ck11 kd40 (by decide) (fun _ _ _ => rfl) (vf_40_0 hsd) tw1242 (by decide +kernel)) ?_
  refine ak (ok_sipush (n := 220) (by decide) (by decide +kernel)) ?_
  refine ak (ok_iconst (n := 5) (by decide) (by decide +kernel)) ?_
  refine ak (ok_iload (by decide +kernel)) ?_
  refine ak (ok_imul (by decide +kernel)) ?_
  refine ak (ok_iadd (by decide +kernel)) ?_
  refine ak (ok_iconst (n := 4) (by decide) (by decide +kernel)) ?_
  refine ak (ok_iadd (by decide +kernel)) ?_
  refine ak (ok_iconst (n := (-1)) (by decide) (by decide +kernel)) ?_
  refine ak (ok_iast kd41 (by decide) (by decide) (by decide +kernel)) ?_
  refine ak (ok_iload (by decide +kernel)) ?_
  refine ak (ok_ireturn rfl (by decide +kernel)) ?_
  exact trivial
set_option maxRecDepth 1000000 in
theorem eK_lance (x1 : Int32) (x2 : Int32) (x3 : Int32) (M : Mem) : run (cK_lance) (fun _ _ _ _ => none) rtI 400 (seek (cK_lance) 0) [aR (40, 0, 0), aI x1, aI x2, aI x3, aU] [] M = mK_lance x1 x2 x3 M := id rfl
theorem lK_lance {E : EV} {l : Launch} {p : Program} {e : Env} {s : State} {m : MethodId} {args : Array Value} {below : List Frame} {meth : Method} {c : Code} (A : AllOK E l 3 "FreeLancesModel" prog_13_method_33_code 5 (some .int) outI (cK_lance)) (C : Cx E p s m args meth c "FreeLancesModel" prog_13_method_33_code 5 (some .int)) : ∀ (x1 : Int32) (x2 : Int32) (x3 : Int32) (M : Mem) (res : (Int32 × Mem)), mK_lance x1 x2 x3 M = some res → Wm E p l e 3 s m args below meth c 5 0 [aR (40, 0, 0), aI x1, aI x2, aI x3, aU] [] M (outI res).1 (outI res).2 := by
  intro x1 x2 x3 M res h
  refine run_at C A rfl hrtI (n := 400) ((eK_lance x1 x2 x3 M).trans h) ?_
  intro t als st M hk; cases hk
def dK_lance {β : Type} : Den β := fun as M k => match as with
  | [.inr (.inr (.inl (al0, bl0, cl0))), .inl x1, .inl x2, .inl x3] => if al0 = 40 ∧ bl0 = 0 ∧ cl0 = 0 then (mK_lance x1 x2 x3 M).bind fun q => k (aI q.1) q.2 else none
  | _ => none
theorem wK_lance {E : EV} (hsd : E.2.2.2 = 1) (l : Launch) (x1 : Int32) (x2 : Int32) (x3 : Int32) (M : Mem) (q : (Int32 × Mem)) (hq : mK_lance x1 x2 x3 M = some q) : Con E l 3 yK_lance prog_13_method_33_code 5 (some .int) [aR (40, 0, 0), aI x1, aI x2, aI x3] M (outI q).1 (outI q).2 := by
  refine con_of iK_lance (Nat.le_of_ble_eq_true rfl) ?_
  intro p e s m args below meth c C
  exact lK_lance (oK_lance hsd l) C x1 x2 x3 M _ hq
theorem kK_lance {E : EV} (hsd : E.2.2.2 = 1) (l : Launch) {β : Type} : DenOK E l 3 yK_lance prog_13_method_33_code 5 (some .int) true (dK_lance (β := β)) := by
  intro as M k res h
  unfold dK_lance at h
  split at h
  ·
    split at h
    · rename_i hc
      obtain ⟨rfl, rfl, rfl⟩ := hc
      obtain ⟨q, hq, hk⟩ := Option.bind_eq_some_iff.mp h
      exact ⟨aI q.1, q.2, hk, rfl, wK_lance hsd l _ _ _ M q hq⟩
    · cases h
  · cases h
theorem qK_lance {β : Type} : RecOK 40 (dK_lance (β := β)) := by
  intro as M k res h
  unfold dK_lance at h
  split at h
  ·
    split at h
    · rename_i hc
      obtain ⟨rfl, rfl, rfl⟩ := hc
      exact ⟨_, _, _, rfl⟩
    · cases h
  · cases h
/-! ===== FreeLancesModel.isLance(I)Z ===== -/
abbrev yK_isLance : MethodName := ⟨"FreeLancesModel", "isLance", "(I)Z"⟩
theorem iK_isLance : MI yK_isLance prog_13_method_7_code 2 (some .boolean) 1 := ⟨tw1437, tw108, ⟨by decide, by decide⟩, by decide +kernel, by decide, by decide⟩
def cK_isLance : List (Ent (Int32 × Mem)) := [(false, 0, 1, sLdI 1),
  (false, 1, 1, sC 0),
  (false, 2, 1, sLdA 0),
  (false, 3, 3, sGet 40 (fun w i M => aR (41, 0, 0))),
  (false, 6, 1, sC 3),
  (false, 7, 1, sIald 41 1502),
  (false, 8, 1, sC 1),
  (false, 9, 1, sBin (fun x y => x - y)),
  (false, 10, 3, sInv 3 true dK_in),
  (false, 13, 1, sRetZ)]
theorem oK_isLance {E : EV} (hsd : E.2.2.2 = 1) (l : Launch) : AllOK E l 2 "FreeLancesModel" prog_13_method_7_code 2 (some .boolean) outI (cK_isLance) := by
  refine ak (ok_iload_n (k := 1) rfl (by decide +kernel)) ?_
  refine ak (ok_iconst (n := 0) (by decide) (by decide +kernel)) ?_
  refine ak (ok_aload_n (k := 0) rfl (by decide +kernel)) ?_
  refine ak (ok_get (k := 0) ck11 kd40 (by decide) (fun _ _ _ => rfl) (vf_40_0 hsd) tw1242 (by decide +kernel)) ?_
  refine ak (ok_iconst (n := 3) (by decide) (by decide +kernel)) ?_
  refine ak (ok_iald kd41 (by decide) (by decide +kernel)) ?_
  refine ak (ok_iconst (n := 1) (by decide) (by decide +kernel)) ?_
  refine ak (ok_isub (by decide +kernel)) ?_
  refine ak (ok_invS (kK_in hsd l) iK_in tw1330 (by decide) tw1329 (by decide +kernel)) ?_
  refine ak (ok_zreturn rfl (by decide +kernel)) ?_
  exact trivial
set_option maxRecDepth 1000000 in
theorem eK_isLance (x1 : Int32) (M : Mem) : run (cK_isLance) (fun _ _ _ _ => none) rtI 400 (seek (cK_isLance) 0) [aR (40, 0, 0), aI x1] [] M = mK_isLance x1 M := id rfl
theorem lK_isLance {E : EV} {l : Launch} {p : Program} {e : Env} {s : State} {m : MethodId} {args : Array Value} {below : List Frame} {meth : Method} {c : Code} (A : AllOK E l 2 "FreeLancesModel" prog_13_method_7_code 2 (some .boolean) outI (cK_isLance)) (C : Cx E p s m args meth c "FreeLancesModel" prog_13_method_7_code 2 (some .boolean)) : ∀ (x1 : Int32) (M : Mem) (res : (Int32 × Mem)), mK_isLance x1 M = some res → Wm E p l e 2 s m args below meth c 2 0 [aR (40, 0, 0), aI x1] [] M (outI res).1 (outI res).2 := by
  intro x1 M res h
  refine run_at C A rfl hrtI (n := 400) ((eK_isLance x1 M).trans h) ?_
  intro t als st M hk; cases hk
def dK_isLance {β : Type} : Den β := fun as M k => match as with
  | [.inr (.inr (.inl (al0, bl0, cl0))), .inl x1] => if al0 = 40 ∧ bl0 = 0 ∧ cl0 = 0 then (mK_isLance x1 M).bind fun q => k (aI q.1) q.2 else none
  | _ => none
theorem wK_isLance {E : EV} (hsd : E.2.2.2 = 1) (l : Launch) (x1 : Int32) (M : Mem) (q : (Int32 × Mem)) (hq : mK_isLance x1 M = some q) : Con E l 2 yK_isLance prog_13_method_7_code 2 (some .boolean) [aR (40, 0, 0), aI x1] M (outI q).1 (outI q).2 := by
  refine con_of iK_isLance (Nat.le_of_ble_eq_true rfl) ?_
  intro p e s m args below meth c C
  exact lK_isLance (oK_isLance hsd l) C x1 M _ hq
theorem kK_isLance {E : EV} (hsd : E.2.2.2 = 1) (l : Launch) {β : Type} : DenOK E l 2 yK_isLance prog_13_method_7_code 2 (some .boolean) true (dK_isLance (β := β)) := by
  intro as M k res h
  unfold dK_isLance at h
  split at h
  ·
    split at h
    · rename_i hc
      obtain ⟨rfl, rfl, rfl⟩ := hc
      obtain ⟨q, hq, hk⟩ := Option.bind_eq_some_iff.mp h
      exact ⟨aI q.1, q.2, hk, rfl, wK_isLance hsd l _ M q hq⟩
    · cases h
  · cases h
theorem qK_isLance {β : Type} : RecOK 40 (dK_isLance (β := β)) := by
  intro as M k res h
  unfold dK_isLance at h
  split at h
  ·
    split at h
    · rename_i hc
      obtain ⟨rfl, rfl, rfl⟩ := hc
      exact ⟨_, _, _, rfl⟩
    · cases h
  · cases h
/-! ===== FreeLancesModel.lanceIs(II)I ===== -/
abbrev yK_lanceIs : MethodName := ⟨"FreeLancesModel", "lanceIs", "(II)I"⟩
theorem iK_lanceIs : MI yK_lanceIs prog_13_method_34_code 3 (some .int) 2 := ⟨tw1433, tw108, ⟨by decide, by decide⟩, by decide +kernel, by decide, by decide⟩
def cK_lanceIs : List (Ent (Int32 × Mem)) := [(false, 0, 1, sLdA 0),
  (false, 1, 1, sLdI 1),
  (false, 2, 3, sInv 2 true dK_isLance),
  (false, 5, 3, sIfEq 26),
  (false, 8, 1, sLdI 2),
  (false, 9, 1, sC 0),
  (false, 10, 1, sC 4),
  (false, 11, 3, sInv 3 true dK_in),
  (false, 14, 3, sIfEq 26),
  (false, 17, 1, sLdA 0),
  (false, 18, 1, sLdI 1),
  (false, 19, 1, sLdI 2),
  (false, 20, 3, sInv 3 true dK_its),
  (false, 23, 3, sGoto 31),
  (false, 26, 1, sLdA 0),
  (false, 27, 1, sC 1),
  (false, 28, 3, sInv 2 true dK_finds),
  (false, 31, 1, sRetI)]
theorem oK_lanceIs {E : EV} (hsd : E.2.2.2 = 1) (l : Launch) : AllOK E l 3 "FreeLancesModel" prog_13_method_34_code 3 (some .int) outI (cK_lanceIs) := by
  refine ak (ok_aload_n (k := 0) rfl (by decide +kernel)) ?_
  refine ak (ok_iload_n (k := 1) rfl (by decide +kernel)) ?_
  refine ak (ok_invV (r := 40) (kK_isLance hsd l) qK_isLance ck11 kd40 iK_isLance tw1436 tw51 (by decide) tw1434 (by decide +kernel)) ?_
  refine ak (ok_if_eq (off := 21) (by decide) (by decide +kernel)) ?_
  refine ak (ok_iload_n (k := 2) rfl (by decide +kernel)) ?_
  refine ak (ok_iconst (n := 0) (by decide) (by decide +kernel)) ?_
  refine ak (ok_iconst (n := 4) (by decide) (by decide +kernel)) ?_
  refine ak (ok_invS (kK_in hsd l) iK_in tw1330 (by decide) tw1329 (by decide +kernel)) ?_
  refine ak (ok_if_eq (off := 12) (by decide) (by decide +kernel)) ?_
  refine ak (ok_aload_n (k := 0) rfl (by decide +kernel)) ?_
  refine ak (ok_iload_n (k := 1) rfl (by decide +kernel)) ?_
  refine ak (ok_iload_n (k := 2) rfl (by decide +kernel)) ?_
  refine ak (ok_invV (r := 40) (kK_its hsd l) qK_its ck11 kd40 iK_its tw1408 tw46 (by decide) tw1406 (by decide +kernel)) ?_
  refine ak (ok_goto (off := 8) (by decide) (by decide +kernel)) ?_
  refine ak (ok_aload_n (k := 0) rfl (by decide +kernel)) ?_
  refine ak (ok_iconst (n := 1) (by decide) (by decide +kernel)) ?_
  refine ak (ok_invV (r := 40) (kK_finds hsd l) qK_finds ck11 kd40 iK_finds tw1334 tw37 (by decide) tw1332 (by decide +kernel)) ?_
  refine ak (ok_ireturn rfl (by decide +kernel)) ?_
  exact trivial
set_option maxRecDepth 1000000 in
theorem eK_lanceIs (x1 : Int32) (x2 : Int32) (M : Mem) : run (cK_lanceIs) (fun _ _ _ _ => none) rtI 400 (seek (cK_lanceIs) 0) [aR (40, 0, 0), aI x1, aI x2] [] M = mK_lanceIs x1 x2 M := id rfl
theorem lK_lanceIs {E : EV} {l : Launch} {p : Program} {e : Env} {s : State} {m : MethodId} {args : Array Value} {below : List Frame} {meth : Method} {c : Code} (A : AllOK E l 3 "FreeLancesModel" prog_13_method_34_code 3 (some .int) outI (cK_lanceIs)) (C : Cx E p s m args meth c "FreeLancesModel" prog_13_method_34_code 3 (some .int)) : ∀ (x1 : Int32) (x2 : Int32) (M : Mem) (res : (Int32 × Mem)), mK_lanceIs x1 x2 M = some res → Wm E p l e 3 s m args below meth c 3 0 [aR (40, 0, 0), aI x1, aI x2] [] M (outI res).1 (outI res).2 := by
  intro x1 x2 M res h
  refine run_at C A rfl hrtI (n := 400) ((eK_lanceIs x1 x2 M).trans h) ?_
  intro t als st M hk; cases hk
def dK_lanceIs {β : Type} : Den β := fun as M k => match as with
  | [.inr (.inr (.inl (al0, bl0, cl0))), .inl x1, .inl x2] => if al0 = 40 ∧ bl0 = 0 ∧ cl0 = 0 then (mK_lanceIs x1 x2 M).bind fun q => k (aI q.1) q.2 else none
  | _ => none
theorem wK_lanceIs {E : EV} (hsd : E.2.2.2 = 1) (l : Launch) (x1 : Int32) (x2 : Int32) (M : Mem) (q : (Int32 × Mem)) (hq : mK_lanceIs x1 x2 M = some q) : Con E l 3 yK_lanceIs prog_13_method_34_code 3 (some .int) [aR (40, 0, 0), aI x1, aI x2] M (outI q).1 (outI q).2 := by
  refine con_of iK_lanceIs (Nat.le_of_ble_eq_true rfl) ?_
  intro p e s m args below meth c C
  exact lK_lanceIs (oK_lanceIs hsd l) C x1 x2 M _ hq
theorem kK_lanceIs {E : EV} (hsd : E.2.2.2 = 1) (l : Launch) {β : Type} : DenOK E l 3 yK_lanceIs prog_13_method_34_code 3 (some .int) true (dK_lanceIs (β := β)) := by
  intro as M k res h
  unfold dK_lanceIs at h
  split at h
  ·
    split at h
    · rename_i hc
      obtain ⟨rfl, rfl, rfl⟩ := hc
      obtain ⟨q, hq, hk⟩ := Option.bind_eq_some_iff.mp h
      exact ⟨aI q.1, q.2, hk, rfl, wK_lanceIs hsd l _ _ M q hq⟩
    · cases h
  · cases h
theorem qK_lanceIs {β : Type} : RecOK 40 (dK_lanceIs (β := β)) := by
  intro as M k res h
  unfold dK_lanceIs at h
  split at h
  ·
    split at h
    · rename_i hc
      obtain ⟨rfl, rfl, rfl⟩ := hc
      exact ⟨_, _, _, rfl⟩
    · cases h
  · cases h
