/-! ===== FreeLancesModel.renew(III)I ===== -/
abbrev yK_renew : MethodName := ⟨"FreeLancesModel", "renew", "(III)I"⟩
theorem iK_renew : MI yK_renew prog_13_method_60_code 4 (some .int) 3 := ⟨tw1548, tw108, ⟨by decide, by decide⟩, by decide +kernel, by decide, by decide⟩
def cK_renew : List (Ent (Int32 × Mem)) := [(false, 0, 1, sLdA 0),
  (false, 1, 1, sLdI 1),
  (false, 2, 3, sInv 2 true dK_isBond),
  (false, 5, 3, sIfEq 42),
  (false, 8, 1, sLdI 2),
  (false, 9, 1, sC 1),
  (false, 10, 3, sC 400),
  (false, 13, 3, sInv 3 true dK_in),
  (false, 16, 3, sIfEq 42),
  (false, 19, 1, sLdI 3),
  (false, 20, 1, sC 0),
  (false, 21, 1, sC 1),
  (false, 22, 3, sInv 3 true dK_in),
  (false, 25, 3, sIfEq 42),
  (false, 28, 1, sLdA 0),
  (false, 29, 1, sLdI 1),
  (false, 30, 1, sC 3),
  (false, 31, 3, sInv 3 true dK_bond),
  (false, 34, 1, sLdI 2),
  (false, 35, 1, sBin (fun x y => x + y)),
  (false, 36, 3, sC 3000),
  (false, 39, 3, sCmpLe 48),
  (false, 42, 1, sLdA 0),
  (false, 43, 1, sC 1),
  (false, 44, 3, sInv 2 true dK_finds),
  (false, 47, 1, sRetI),
  (false, 48, 1, sLdA 0),
  (false, 49, 1, sLdI 1),
  (false, 50, 3, sInv 2 true dK_isContract),
  (false, 53, 3, sIfNe 62),
  (false, 56, 1, sLdA 0),
  (false, 57, 1, sC 5),
  (false, 58, 3, sInv 2 true dK_finds),
  (false, 61, 1, sRetI),
  (false, 62, 1, sLdA 0),
  (false, 63, 1, sLdI 1),
  (false, 64, 2, sC 11),
  (false, 66, 3, sInv 3 true dK_bond),
  (false, 69, 1, sC 1),
  (false, 70, 3, sCmpNe 79),
  (false, 73, 1, sLdA 0),
  (false, 74, 1, sC 3),
  (false, 75, 3, sInv 2 true dK_finds),
  (false, 78, 1, sRetI),
  (false, 79, 1, sLdA 0),
  (false, 80, 3, sInv 1 true dK_isFull),
  (false, 83, 3, sIfEq 92),
  (false, 86, 1, sLdA 0),
  (false, 87, 1, sC 4),
  (false, 88, 3, sInv 2 true dK_finds),
  (false, 91, 1, sRetI),
  (false, 92, 1, sLdA 0),
  (false, 93, 1, sLdI 1),
  (false, 94, 2, sC 11),
  (false, 96, 1, sC 1),
  (false, 97, 3, sInv 4 false dK_writes),
  (false, 100, 1, sLdA 0),
  (false, 101, 1, sC 2),
  (false, 102, 1, sLdA 0),
  (false, 103, 1, sLdI 1),
  (false, 104, 1, sC 1),
  (false, 105, 3, sInv 3 true dK_bond),
  (false, 108, 1, sLdA 0),
  (false, 109, 1, sLdI 1),
  (false, 110, 1, sC 3),
  (false, 111, 3, sInv 3 true dK_bond),
  (false, 114, 1, sC 1),
  (false, 115, 1, sBin (fun x y => x + y)),
  (false, 116, 1, sLdA 0),
  (false, 117, 1, sLdI 1),
  (false, 118, 1, sC 3),
  (false, 119, 3, sInv 3 true dK_bond),
  (false, 122, 1, sLdI 2),
  (false, 123, 1, sBin (fun x y => x + y)),
  (false, 124, 1, sLdA 0),
  (false, 125, 1, sLdI 1),
  (false, 126, 1, sC 4),
  (false, 127, 3, sInv 3 true dK_bond),
  (false, 130, 1, sLdA 0),
  (false, 131, 1, sLdI 1),
  (false, 132, 1, sC 5),
  (false, 133, 3, sInv 3 true dK_bond),
  (false, 136, 1, sLdA 0),
  (false, 137, 1, sLdI 1),
  (false, 138, 2, sC 6),
  (false, 140, 3, sInv 3 true dK_bond),
  (false, 143, 1, sLdI 1),
  (false, 144, 3, sInv 9 true dK_newBond),
  (false, 147, 1, sRetI)]
theorem oK_renew {E : EV} (hsd : E.2.2.2 = 1) (l : Launch) : AllOK E l 3 "FreeLancesModel" prog_13_method_60_code 4 (some .int) outI (cK_renew) := by
  refine ak (ok_aload_n (k := 0) rfl (by decide +kernel)) ?_
  refine ak (ok_iload_n (k := 1) rfl (by decide +kernel)) ?_
  refine ak (ok_invV (r := 40) (kK_isBond hsd l) qK_isBond ck11 kd40 iK_isBond tw1551 tw67 (by decide) tw1549 (by decide +kernel)) ?_
  refine ak (ok_if_eq (off := 37) (by decide) (by decide +kernel)) ?_
  refine ak (ok_iload_n (k := 2) rfl (by decide +kernel)) ?_
  refine ak (ok_iconst (n := 1) (by decide) (by decide +kernel)) ?_
  refine ak (ok_sipush (n := 400) (by decide) (by decide +kernel)) ?_
  refine ak (ok_invS (kK_in hsd l) iK_in tw1330 (by decide) tw1329 (by decide +kernel)) ?_
  refine ak (ok_if_eq (off := 26) (by decide) (by decide +kernel)) ?_
  refine ak (ok_iload_n (k := 3) rfl (by decide +kernel)) ?_
  refine ak (ok_iconst (n := 0) (by decide) (by decide +kernel)) ?_
  refine ak (ok_iconst (n := 1) (by decide) (by decide +kernel)) ?_
  refine ak (ok_invS (kK_in hsd l) iK_in tw1330 (by decide) tw1329 (by decide +kernel)) ?_
  refine ak (ok_if_eq (off := 17) (by decide) (by decide +kernel)) ?_
  refine ak (ok_aload_n (k := 0) rfl (by decide +kernel)) ?_
  refine ak (ok_iload_n (k := 1) rfl (by decide +kernel)) ?_
  refine ak (ok_iconst (n := 3) (by decide) (by decide +kernel)) ?_
  refine ak (ok_invV (r := 40) (kK_bond hsd l) qK_bond ck11 kd40 iK_bond tw1420 tw49 (by decide) tw1418 (by decide +kernel)) ?_
  refine ak (ok_iload_n (k := 2) rfl (by decide +kernel)) ?_
  refine ak (ok_iadd (by decide +kernel)) ?_
  refine ak (ok_sipush (n := 3000) (by decide) (by decide +kernel)) ?_
  refine ak (ok_icmp_le (off := 9) (by decide) (by decide +kernel)) ?_
  refine ak (ok_aload_n (k := 0) rfl (by decide +kernel)) ?_
  refine ak (ok_iconst (n := 1) (by decide) (by decide +kernel)) ?_
  refine ak (ok_invV (r := 40) (kK_finds hsd l) qK_finds ck11 kd40 iK_finds tw1334 tw37 (by decide) tw1332 (by decide +kernel)) ?_
  refine ak (ok_ireturn rfl (by decide +kernel)) ?_
  refine ak (ok_aload_n (k := 0) rfl (by decide +kernel)) ?_
  refine ak (ok_iload_n (k := 1) rfl (by decide +kernel)) ?_
  refine ak (ok_invV (r := 40) (kK_isContract hsd l) qK_isContract ck11 kd40 iK_isContract tw1416 tw48 (by decide) tw1414 (by decide +kernel)) ?_
  refine ak (ok_if_ne (off := 9) (by decide) (by decide +kernel)) ?_
  refine ak (ok_aload_n (k := 0) rfl (by decide +kernel)) ?_
  refine ak (ok_iconst (n := 5) (by decide) (by decide +kernel)) ?_
  refine ak (ok_invV (r := 40) (kK_finds hsd l) qK_finds ck11 kd40 iK_finds tw1334 tw37 (by decide) tw1332 (by decide +kernel)) ?_
  refine ak (ok_ireturn rfl (by decide +kernel)) ?_
  refine ak (ok_aload_n (k := 0) rfl (by decide +kernel)) ?_
  refine ak (ok_iload_n (k := 1) rfl (by decide +kernel)) ?_
  refine ak (ok_bipush (n := 11) (by decide) (by decide +kernel)) ?_
  refine ak (ok_invV (r := 40) (kK_bond hsd l) qK_bond ck11 kd40 iK_bond tw1420 tw49 (by decide) tw1418 (by decide +kernel)) ?_
  refine ak (ok_iconst (n := 1) (by decide) (by decide +kernel)) ?_
  refine ak (ok_icmp_ne (off := 9) (by decide) (by decide +kernel)) ?_
  refine ak (ok_aload_n (k := 0) rfl (by decide +kernel)) ?_
  refine ak (ok_iconst (n := 3) (by decide) (by decide +kernel)) ?_
  refine ak (ok_invV (r := 40) (kK_finds hsd l) qK_finds ck11 kd40 iK_finds tw1334 tw37 (by decide) tw1332 (by decide +kernel)) ?_
  refine ak (ok_ireturn rfl (by decide +kernel)) ?_
  refine ak (ok_aload_n (k := 0) rfl (by decide +kernel)) ?_
  refine ak (ok_invV (r := 40) (kK_isFull hsd l) qK_isFull ck11 kd40 iK_isFull tw1535 tw64 (by decide) tw1533 (by decide +kernel)) ?_
  refine ak (ok_if_eq (off := 9) (by decide) (by decide +kernel)) ?_
  refine ak (ok_aload_n (k := 0) rfl (by decide +kernel)) ?_
  refine ak (ok_iconst (n := 4) (by decide) (by decide +kernel)) ?_
  refine ak (ok_invV (r := 40) (kK_finds hsd l) qK_finds ck11 kd40 iK_finds tw1334 tw37 (by decide) tw1332 (by decide +kernel)) ?_
  refine ak (ok_ireturn rfl (by decide +kernel)) ?_
  refine ak (ok_aload_n (k := 0) rfl (by decide +kernel)) ?_
  refine ak (ok_iload_n (k := 1) rfl (by decide +kernel)) ?_
  refine ak (ok_bipush (n := 11) (by decide) (by decide +kernel)) ?_
  refine ak (ok_iconst (n := 1) (by decide) (by decide +kernel)) ?_
  refine ak (ok_invV (r := 40) (kK_writes hsd l) qK_writes ck11 kd40 iK_writes tw1543 tw66 (by decide) tw1541 (by decide +kernel)) ?_
  refine ak (ok_aload_n (k := 0) rfl (by decide +kernel)) ?_
  refine ak (ok_iconst (n := 2) (by decide) (by decide +kernel)) ?_
  refine ak (ok_aload_n (k := 0) rfl (by decide +kernel)) ?_
  refine ak (ok_iload_n (k := 1) rfl (by decide +kernel)) ?_
  refine ak (ok_iconst (n := 1) (by decide) (by decide +kernel)) ?_
  refine ak (ok_invV (r := 40) (kK_bond hsd l) qK_bond ck11 kd40 iK_bond tw1420 tw49 (by decide) tw1418 (by decide +kernel)) ?_
  refine ak (ok_aload_n (k := 0) rfl (by decide +kernel)) ?_
  refine ak (ok_iload_n (k := 1) rfl (by decide +kernel)) ?_
  refine ak (ok_iconst (n := 3) (by decide) (by decide +kernel)) ?_
  refine ak (ok_invV (r := 40) (kK_bond hsd l) qK_bond ck11 kd40 iK_bond tw1420 tw49 (by decide) tw1418 (by decide +kernel)) ?_
  refine ak (ok_iconst (n := 1) (by decide) (by decide +kernel)) ?_
  refine ak (ok_iadd (by decide +kernel)) ?_
  refine ak (ok_aload_n (k := 0) rfl (by decide +kernel)) ?_
  refine ak (ok_iload_n (k := 1) rfl (by decide +kernel)) ?_
  refine ak (ok_iconst (n := 3) (by decide) (by decide +kernel)) ?_
  refine ak (ok_invV (r := 40) (kK_bond hsd l) qK_bond ck11 kd40 iK_bond tw1420 tw49 (by decide) tw1418 (by decide +kernel)) ?_
  refine ak (ok_iload_n (k := 2) rfl (by decide +kernel)) ?_
  refine ak (ok_iadd (by decide +kernel)) ?_
  refine ak (ok_aload_n (k := 0) rfl (by decide +kernel)) ?_
  refine ak (ok_iload_n (k := 1) rfl (by decide +kernel)) ?_
  refine ak (ok_iconst (n := 4) (by decide) (by decide +kernel)) ?_
  refine ak (ok_invV (r := 40) (kK_bond hsd l) qK_bond ck11 kd40 iK_bond tw1420 tw49 (by decide) tw1418 (by decide +kernel)) ?_
  refine ak (ok_aload_n (k := 0) rfl (by decide +kernel)) ?_
  refine ak (ok_iload_n (k := 1) rfl (by decide +kernel)) ?_
  refine ak (ok_iconst (n := 5) (by decide) (by decide +kernel)) ?_
  refine ak (ok_invV (r := 40) (kK_bond hsd l) qK_bond ck11 kd40 iK_bond tw1420 tw49 (by decide) tw1418 (by decide +kernel)) ?_
  refine ak (ok_aload_n (k := 0) rfl (by decide +kernel)) ?_
  refine ak (ok_iload_n (k := 1) rfl (by decide +kernel)) ?_
  refine ak (ok_bipush (n := 6) (by decide) (by decide +kernel)) ?_
  refine ak (ok_invV (r := 40) (kK_bond hsd l) qK_bond ck11 kd40 iK_bond tw1420 tw49 (by decide) tw1418 (by decide +kernel)) ?_
  refine ak (ok_iload_n (k := 1) rfl (by decide +kernel)) ?_
  refine ak (ok_invV (r := 40) (kK_newBond hsd l) qK_newBond ck11 kd40 iK_newBond tw1539 tw65 (by decide) tw1537 (by decide +kernel)) ?_
  refine ak (ok_ireturn rfl (by decide +kernel)) ?_
  exact trivial
set_option maxRecDepth 1000000 in
theorem eK_renew (x1 : Int32) (x2 : Int32) (x3 : Int32) (M : Mem) : run (cK_renew) (fun _ _ _ _ => none) rtI 400 (seek (cK_renew) 0) [aR (40, 0, 0), aI x1, aI x2, aI x3] [] M = mK_renew x1 x2 x3 M := id rfl
theorem lK_renew {E : EV} {l : Launch} {p : Program} {e : Env} {s : State} {m : MethodId} {args : Array Value} {below : List Frame} {meth : Method} {c : Code} (A : AllOK E l 3 "FreeLancesModel" prog_13_method_60_code 4 (some .int) outI (cK_renew)) (C : Cx E p s m args meth c "FreeLancesModel" prog_13_method_60_code 4 (some .int)) : ∀ (x1 : Int32) (x2 : Int32) (x3 : Int32) (M : Mem) (res : (Int32 × Mem)), mK_renew x1 x2 x3 M = some res → Wm E p l e 3 s m args below meth c 4 0 [aR (40, 0, 0), aI x1, aI x2, aI x3] [] M (outI res).1 (outI res).2 := by
  intro x1 x2 x3 M res h
  refine run_at C A rfl hrtI (n := 400) ((eK_renew x1 x2 x3 M).trans h) ?_
  intro t als st M hk; cases hk
def dK_renew {β : Type} : Den β := fun as M k => match as with
  | [.inr (.inr (.inl (al0, bl0, cl0))), .inl x1, .inl x2, .inl x3] => if al0 = 40 ∧ bl0 = 0 ∧ cl0 = 0 then (mK_renew x1 x2 x3 M).bind fun q => k (aI q.1) q.2 else none
  | _ => none
theorem wK_renew {E : EV} (hsd : E.2.2.2 = 1) (l : Launch) (x1 : Int32) (x2 : Int32) (x3 : Int32) (M : Mem) (q : (Int32 × Mem)) (hq : mK_renew x1 x2 x3 M = some q) : Con E l 3 yK_renew prog_13_method_60_code 4 (some .int) [aR (40, 0, 0), aI x1, aI x2, aI x3] M (outI q).1 (outI q).2 := by
  refine con_of iK_renew (Nat.le_of_ble_eq_true rfl) ?_
  intro p e s m args below meth c C
  exact lK_renew (oK_renew hsd l) C x1 x2 x3 M _ hq
theorem kK_renew {E : EV} (hsd : E.2.2.2 = 1) (l : Launch) {β : Type} : DenOK E l 3 yK_renew prog_13_method_60_code 4 (some .int) true (dK_renew (β := β)) := by
  intro as M k res h
  unfold dK_renew at h
  split at h
  ·
    split at h
    · rename_i hc
      obtain ⟨rfl, rfl, rfl⟩ := hc
      obtain ⟨q, hq, hk⟩ := Option.bind_eq_some_iff.mp h
      exact ⟨aI q.1, q.2, hk, rfl, wK_renew hsd l _ _ _ M q hq⟩
    · cases h
  · cases h
theorem qK_renew {β : Type} : RecOK 40 (dK_renew (β := β)) := by
  intro as M k res h
  unfold dK_renew at h
  split at h
  ·
    split at h
    · rename_i hc
      obtain ⟨rfl, rfl, rfl⟩ := hc
      exact ⟨_, _, _, rfl⟩
    · cases h
  · cases h
/-! ===== FreeLancesModel.gives(III)V ===== -/
abbrev yK_gives : MethodName := ⟨"FreeLancesModel", "gives", "(III)V"⟩
theorem iK_gives : MI yK_gives prog_13_method_61_code 4 none 3 := ⟨tw1560, tw108, ⟨by decide, by decide⟩, by decide +kernel, by decide, by decide⟩
def cK_gives : List (Ent Mem) := [(false, 0, 1, sLdA 0),
  (false, 1, 1, sLdI 1),
  (false, 2, 1, sC 0),
  (false, 3, 1, sLdI 3),
  (false, 4, 1, sUn (fun x => -x)),
  (false, 5, 3, sInv 4 false dK_townGets),
  (false, 8, 1, sLdA 0),
  (false, 9, 1, sLdI 2),
  (false, 10, 1, sC 0),
  (false, 11, 1, sLdA 0),
  (false, 12, 1, sLdI 2),
  (false, 13, 1, sC 0),
  (false, 14, 3, sInv 3 true dK_own),
  (false, 17, 1, sLdI 3),
  (false, 18, 1, sBin (fun x y => x + y)),
  (false, 19, 3, sInv 4 false dK_sets),
  (false, 22, 1, sRetV)]
theorem oK_gives {E : EV} (hsd : E.2.2.2 = 1) (l : Launch) : AllOK E l 2 "FreeLancesModel" prog_13_method_61_code 4 none outV (cK_gives) := by
  refine ak (ok_aload_n (k := 0) rfl (by decide +kernel)) ?_
  refine ak (ok_iload_n (k := 1) rfl (by decide +kernel)) ?_
  refine ak (ok_iconst (n := 0) (by decide) (by decide +kernel)) ?_
  refine ak (ok_iload_n (k := 3) rfl (by decide +kernel)) ?_
  refine ak (ok_ineg (by decide +kernel)) ?_
  refine ak (ok_invV (r := 40) (kK_townGets hsd l) qK_townGets ck11 kd40 iK_townGets tw1376 tw42 (by decide) tw1374 (by decide +kernel)) ?_
  refine ak (ok_aload_n (k := 0) rfl (by decide +kernel)) ?_
  refine ak (ok_iload_n (k := 2) rfl (by decide +kernel)) ?_
  refine ak (ok_iconst (n := 0) (by decide) (by decide +kernel)) ?_
  refine ak (ok_aload_n (k := 0) rfl (by decide +kernel)) ?_
  refine ak (ok_iload_n (k := 2) rfl (by decide +kernel)) ?_
  refine ak (ok_iconst (n := 0) (by decide) (by decide +kernel)) ?_
  refine ak (ok_invV (r := 40) (kK_own hsd l) qK_own ck11 kd40 iK_own tw1363 tw41 (by decide) tw1361 (by decide +kernel)) ?_
  refine ak (ok_iload_n (k := 3) rfl (by decide +kernel)) ?_
  refine ak (ok_iadd (by decide +kernel)) ?_
  refine ak (ok_invV (r := 40) (kK_sets hsd l) qK_sets ck11 kd40 iK_sets tw1384 tw43 (by decide) tw1382 (by decide +kernel)) ?_
  refine ak (ok_return rfl (by decide +kernel)) ?_
  exact trivial
set_option maxRecDepth 1000000 in
theorem eK_gives (x1 : Int32) (x2 : Int32) (x3 : Int32) (M : Mem) : run (cK_gives) (fun _ _ _ _ => none) rtV 400 (seek (cK_gives) 0) [aR (40, 0, 0), aI x1, aI x2, aI x3] [] M = mK_gives x1 x2 x3 M := id rfl
theorem lK_gives {E : EV} {l : Launch} {p : Program} {e : Env} {s : State} {m : MethodId} {args : Array Value} {below : List Frame} {meth : Method} {c : Code} (A : AllOK E l 2 "FreeLancesModel" prog_13_method_61_code 4 none outV (cK_gives)) (C : Cx E p s m args meth c "FreeLancesModel" prog_13_method_61_code 4 none) : ∀ (x1 : Int32) (x2 : Int32) (x3 : Int32) (M : Mem) (res : Mem), mK_gives x1 x2 x3 M = some res → Wm E p l e 2 s m args below meth c 4 0 [aR (40, 0, 0), aI x1, aI x2, aI x3] [] M (outV res).1 (outV res).2 := by
  intro x1 x2 x3 M res h
  refine run_at C A rfl hrtV (n := 400) ((eK_gives x1 x2 x3 M).trans h) ?_
  intro t als st M hk; cases hk
def dK_gives {β : Type} : Den β := fun as M k => match as with
  | [.inr (.inr (.inl (al0, bl0, cl0))), .inl x1, .inl x2, .inl x3] => if al0 = 40 ∧ bl0 = 0 ∧ cl0 = 0 then (mK_gives x1 x2 x3 M).bind fun q => k aU q else none
  | _ => none
theorem wK_gives {E : EV} (hsd : E.2.2.2 = 1) (l : Launch) (x1 : Int32) (x2 : Int32) (x3 : Int32) (M : Mem) (q : Mem) (hq : mK_gives x1 x2 x3 M = some q) : Con E l 2 yK_gives prog_13_method_61_code 4 none [aR (40, 0, 0), aI x1, aI x2, aI x3] M (outV q).1 (outV q).2 := by
  refine con_of iK_gives (Nat.le_of_ble_eq_true rfl) ?_
  intro p e s m args below meth c C
  exact lK_gives (oK_gives hsd l) C x1 x2 x3 M _ hq
theorem kK_gives {E : EV} (hsd : E.2.2.2 = 1) (l : Launch) {β : Type} : DenOK E l 2 yK_gives prog_13_method_61_code 4 none false (dK_gives (β := β)) := by
  intro as M k res h
  unfold dK_gives at h
  split at h
  ·
    split at h
    · rename_i hc
      obtain ⟨rfl, rfl, rfl⟩ := hc
      obtain ⟨q, hq, hk⟩ := Option.bind_eq_some_iff.mp h
      exact ⟨aU, q, hk, rfl, wK_gives hsd l _ _ _ M q hq⟩
    · cases h
  · cases h
theorem qK_gives {β : Type} : RecOK 40 (dK_gives (β := β)) := by
  intro as M k res h
  unfold dK_gives at h
  split at h
  ·
    split at h
    · rename_i hc
      obtain ⟨rfl, rfl, rfl⟩ := hc
      exact ⟨_, _, _, rfl⟩
    · cases h
  · cases h
/-! ===== FreeLancesModel.advance(II)I ===== -/
abbrev yK_advance : MethodName := ⟨"FreeLancesModel", "advance", "(II)I"⟩
theorem iK_advance : MI yK_advance prog_13_method_62_code 3 (some .int) 2 := ⟨tw1556, tw108, ⟨by decide, by decide⟩, by decide +kernel, by decide, by decide⟩
def cK_advance : List (Ent (Int32 × Mem)) := [(false, 0, 1, sLdA 0),
  (false, 1, 1, sLdI 1),
  (false, 2, 3, sInv 2 true dK_isBond),
  (false, 5, 3, sIfEq 19),
  (false, 8, 1, sLdI 2),
  (false, 9, 1, sC 1),
  (false, 10, 3, sC 9999),
  (false, 13, 3, sInv 3 true dK_in),
  (false, 16, 3, sIfNe 25),
  (false, 19, 1, sLdA 0),
  (false, 20, 1, sC 1),
  (false, 21, 3, sInv 2 true dK_finds),
  (false, 24, 1, sRetI),
  (false, 25, 1, sLdA 0),
  (false, 26, 1, sLdI 1),
  (false, 27, 3, sInv 2 true dK_isContract),
  (false, 30, 3, sIfNe 39),
  (false, 33, 1, sLdA 0),
  (false, 34, 1, sC 5),
  (false, 35, 3, sInv 2 true dK_finds),
  (false, 38, 1, sRetI),
  (false, 39, 1, sLdA 0),
  (false, 40, 1, sLdA 0),
  (false, 41, 1, sLdI 1),
  (false, 42, 1, sC 5),
  (false, 43, 3, sInv 3 true dK_bond),
  (false, 46, 1, sC 0),
  (false, 47, 3, sInv 3 true dK_ofTown),
  (false, 50, 1, sLdI 2),
  (false, 51, 3, sCmpGe 60),
  (false, 54, 1, sLdA 0),
  (false, 55, 1, sC 2),
  (false, 56, 3, sInv 2 true dK_finds),
  (false, 59, 1, sRetI),
  (false, 60, 1, sLdA 0),
  (false, 61, 3, sInv 1 true dK_isFull),
  (false, 64, 3, sIfEq 73),
  (false, 67, 1, sLdA 0),
  (false, 68, 1, sC 4),
  (false, 69, 3, sInv 2 true dK_finds),
  (false, 72, 1, sRetI),
  (false, 73, 1, sLdA 0),
  (false, 74, 1, sLdA 0),
  (false, 75, 1, sLdI 1),
  (false, 76, 1, sC 5),
  (false, 77, 3, sInv 3 true dK_bond),
  (false, 80, 1, sLdA 0),
  (false, 81, 1, sLdI 1),
  (false, 82, 1, sC 1),
  (false, 83, 3, sInv 3 true dK_bond),
  (false, 86, 1, sLdI 2),
  (false, 87, 3, sInv 4 false dK_gives),
  (false, 90, 1, sLdA 0),
  (false, 91, 1, sLdI 1),
  (false, 92, 2, sC 10),
  (false, 94, 1, sLdA 0),
  (false, 95, 1, sLdI 1),
  (false, 96, 2, sC 10),
  (false, 98, 3, sInv 3 true dK_bond),
  (false, 101, 1, sLdI 2),
  (false, 102, 1, sBin (fun x y => x + y)),
  (false, 103, 3, sInv 4 false dK_writes),
  (false, 106, 1, sLdA 0),
  (false, 107, 1, sC 3),
  (false, 108, 1, sLdA 0),
  (false, 109, 1, sLdI 1),
  (false, 110, 1, sC 1),
  (false, 111, 3, sInv 3 true dK_bond),
  (false, 114, 1, sC (-1)),
  (false, 115, 1, sC (-1)),
  (false, 116, 1, sLdI 2),
  (false, 117, 1, sLdA 0),
  (false, 118, 1, sLdI 1),
  (false, 119, 1, sC 5),
  (false, 120, 3, sInv 3 true dK_bond),
  (false, 123, 1, sC (-1)),
  (false, 124, 1, sLdI 1),
  (false, 125, 3, sInv 9 true dK_newBond),
  (false, 128, 1, sRetI)]
theorem oK_advance {E : EV} (hsd : E.2.2.2 = 1) (l : Launch) : AllOK E l 3 "FreeLancesModel" prog_13_method_62_code 3 (some .int) outI (cK_advance) := by
  refine ak (ok_aload_n (k := 0) rfl (by decide +kernel)) ?_
  refine ak (ok_iload_n (k := 1) rfl (by decide +kernel)) ?_
  refine ak (ok_invV (r := 40) (kK_isBond hsd l) qK_isBond ck11 kd40 iK_isBond tw1551 tw67 (by decide) tw1549 (by decide +kernel)) ?_
  refine ak (ok_if_eq (off := 14) (by decide) (by decide +kernel)) ?_
  refine ak (ok_iload_n (k := 2) rfl (by decide +kernel)) ?_
  refine ak (ok_iconst (n := 1) (by decide) (by decide +kernel)) ?_
  refine ak (ok_sipush (n := 9999) (by decide) (by decide +kernel)) ?_
  refine ak (ok_invS (kK_in hsd l) iK_in tw1330 (by decide) tw1329 (by decide +kernel)) ?_
  refine ak (ok_if_ne (off := 9) (by decide) (by decide +kernel)) ?_
  refine ak (ok_aload_n (k := 0) rfl (by decide +kernel)) ?_
  refine ak (ok_iconst (n := 1) (by decide) (by decide +kernel)) ?_
  refine ak (ok_invV (r := 40) (kK_finds hsd l) qK_finds ck11 kd40 iK_finds tw1334 tw37 (by decide) tw1332 (by decide +kernel)) ?_
  refine ak (ok_ireturn rfl (by decide +kernel)) ?_
  refine ak (ok_aload_n (k := 0) rfl (by decide +kernel)) ?_
  refine ak (ok_iload_n (k := 1) rfl (by decide +kernel)) ?_
  refine ak (ok_invV (r := 40) (kK_isContract hsd l) qK_isContract ck11 kd40 iK_isContract tw1416 tw48 (by decide) tw1414 (by decide +kernel)) ?_
  refine ak (ok_if_ne (off := 9) (by decide) (by decide +kernel)) ?_
  refine ak (ok_aload_n (k := 0) rfl (by decide +kernel)) ?_
  refine ak (ok_iconst (n := 5) (by decide) (by decide +kernel)) ?_
  refine ak (ok_invV (r := 40) (kK_finds hsd l) qK_finds ck11 kd40 iK_finds tw1334 tw37 (by decide) tw1332 (by decide +kernel)) ?_
  refine ak (ok_ireturn rfl (by decide +kernel)) ?_
  refine ak (ok_aload_n (k := 0) rfl (by decide +kernel)) ?_
  refine ak (ok_aload_n (k := 0) rfl (by decide +kernel)) ?_
  refine ak (ok_iload_n (k := 1) rfl (by decide +kernel)) ?_
  refine ak (ok_iconst (n := 5) (by decide) (by decide +kernel)) ?_
  refine ak (ok_invV (r := 40) (kK_bond hsd l) qK_bond ck11 kd40 iK_bond tw1420 tw49 (by decide) tw1418 (by decide +kernel)) ?_
  refine ak (ok_iconst (n := 0) (by decide) (by decide +kernel)) ?_
  refine ak (ok_invV (r := 40) (kK_ofTown hsd l) qK_ofTown ck11 kd40 iK_ofTown tw1359 tw40 (by decide) tw1357 (by decide +kernel)) ?_
  refine ak (ok_iload_n (k := 2) rfl (by decide +kernel)) ?_
  refine ak (ok_icmp_ge (off := 9) (by decide) (by decide +kernel)) ?_
  refine ak (ok_aload_n (k := 0) rfl (by decide +kernel)) ?_
  refine ak (ok_iconst (n := 2) (by decide) (by decide +kernel)) ?_
  refine ak (ok_invV (r := 40) (kK_finds hsd l) qK_finds ck11 kd40 iK_finds tw1334 tw37 (by decide) tw1332 (by decide +kernel)) ?_
  refine ak (ok_ireturn rfl (by decide +kernel)) ?_
  refine ak (ok_aload_n (k := 0) rfl (by decide +kernel)) ?_
  refine ak (ok_invV (r := 40) (kK_isFull hsd l) qK_isFull ck11 kd40 iK_isFull tw1535 tw64 (by decide) tw1533 (by decide +kernel)) ?_
  refine ak (ok_if_eq (off := 9) (by decide) (by decide +kernel)) ?_
  refine ak (ok_aload_n (k := 0) rfl (by decide +kernel)) ?_
  refine ak (ok_iconst (n := 4) (by decide) (by decide +kernel)) ?_
  refine ak (ok_invV (r := 40) (kK_finds hsd l) qK_finds ck11 kd40 iK_finds tw1334 tw37 (by decide) tw1332 (by decide +kernel)) ?_
  refine ak (ok_ireturn rfl (by decide +kernel)) ?_
  refine ak (ok_aload_n (k := 0) rfl (by decide +kernel)) ?_
  refine ak (ok_aload_n (k := 0) rfl (by decide +kernel)) ?_
  refine ak (ok_iload_n (k := 1) rfl (by decide +kernel)) ?_
  refine ak (ok_iconst (n := 5) (by decide) (by decide +kernel)) ?_
  refine ak (ok_invV (r := 40) (kK_bond hsd l) qK_bond ck11 kd40 iK_bond tw1420 tw49 (by decide) tw1418 (by decide +kernel)) ?_
  refine ak (ok_aload_n (k := 0) rfl (by decide +kernel)) ?_
  refine ak (ok_iload_n (k := 1) rfl (by decide +kernel)) ?_
  refine ak (ok_iconst (n := 1) (by decide) (by decide +kernel)) ?_
  refine ak (ok_invV (r := 40) (kK_bond hsd l) qK_bond ck11 kd40 iK_bond tw1420 tw49 (by decide) tw1418 (by decide +kernel)) ?_
  refine ak (ok_iload_n (k := 2) rfl (by decide +kernel)) ?_
  refine ak (ok_invV (r := 40) (kK_gives hsd l) qK_gives ck11 kd40 iK_gives tw1559 tw68 (by decide) tw1557 (by decide +kernel)) ?_
  refine ak (ok_aload_n (k := 0) rfl (by decide +kernel)) ?_
  refine ak (ok_iload_n (k := 1) rfl (by decide +kernel)) ?_
  refine ak (ok_bipush (n := 10) (by decide) (by decide +kernel)) ?_
  refine ak (ok_aload_n (k := 0) rfl (by decide +kernel)) ?_
  refine ak (ok_iload_n (k := 1) rfl (by decide +kernel)) ?_
  refine ak (ok_bipush (n := 10) (by decide) (by decide +kernel)) ?_
  refine ak (ok_invV (r := 40) (kK_bond hsd l) qK_bond ck11 kd40 iK_bond tw1420 tw49 (by decide) tw1418 (by decide +kernel)) ?_
  refine ak (ok_iload_n (k := 2) rfl (by decide +kernel)) ?_
  refine ak (ok_iadd (by decide +kernel)) ?_
  refine ak (ok_invV (r := 40) (kK_writes hsd l) qK_writes ck11 kd40 iK_writes tw1543 tw66 (by decide) tw1541 (by decide +kernel)) ?_
  refine ak (ok_aload_n (k := 0) rfl (by decide +kernel)) ?_
  refine ak (ok_iconst (n := 3) (by decide) (by decide +kernel)) ?_
  refine ak (ok_aload_n (k := 0) rfl (by decide +kernel)) ?_
  refine ak (ok_iload_n (k := 1) rfl (by decide +kernel)) ?_
  refine ak (ok_iconst (n := 1) (by decide) (by decide +kernel)) ?_
  refine ak (ok_invV (r := 40) (kK_bond hsd l) qK_bond ck11 kd40 iK_bond tw1420 tw49 (by decide) tw1418 (by decide +kernel)) ?_
  refine ak (ok_iconst (n := (-1)) (by decide) (by decide +kernel)) ?_
  refine ak (ok_iconst (n := (-1)) (by decide) (by decide +kernel)) ?_
  refine ak (ok_iload_n (k := 2) rfl (by decide +kernel)) ?_
  refine ak (ok_aload_n (k := 0) rfl (by decide +kernel)) ?_
  refine ak (ok_iload_n (k := 1) rfl (by decide +kernel)) ?_
  refine ak (ok_iconst (n := 5) (by decide) (by decide +kernel)) ?_
  refine ak (ok_invV (r := 40) (kK_bond hsd l) qK_bond ck11 kd40 iK_bond tw1420 tw49 (by decide) tw1418 (by decide +kernel)) ?_
  refine ak (ok_iconst (n := (-1)) (by decide) (by decide +kernel)) ?_
  refine ak (ok_iload_n (k := 1) rfl (by decide +kernel)) ?_
  refine ak (ok_invV (r := 40) (kK_newBond hsd l) qK_newBond ck11 kd40 iK_newBond tw1539 tw65 (by decide) tw1537 (by decide +kernel)) ?_
  refine ak (ok_ireturn rfl (by decide +kernel)) ?_
  exact trivial
set_option maxRecDepth 1000000 in
theorem eK_advance (x1 : Int32) (x2 : Int32) (M : Mem) : run (cK_advance) (fun _ _ _ _ => none) rtI 400 (seek (cK_advance) 0) [aR (40, 0, 0), aI x1, aI x2] [] M = mK_advance x1 x2 M := id rfl
theorem lK_advance {E : EV} {l : Launch} {p : Program} {e : Env} {s : State} {m : MethodId} {args : Array Value} {below : List Frame} {meth : Method} {c : Code} (A : AllOK E l 3 "FreeLancesModel" prog_13_method_62_code 3 (some .int) outI (cK_advance)) (C : Cx E p s m args meth c "FreeLancesModel" prog_13_method_62_code 3 (some .int)) : ∀ (x1 : Int32) (x2 : Int32) (M : Mem) (res : (Int32 × Mem)), mK_advance x1 x2 M = some res → Wm E p l e 3 s m args below meth c 3 0 [aR (40, 0, 0), aI x1, aI x2] [] M (outI res).1 (outI res).2 := by
  intro x1 x2 M res h
  refine run_at C A rfl hrtI (n := 400) ((eK_advance x1 x2 M).trans h) ?_
  intro t als st M hk; cases hk
def dK_advance {β : Type} : Den β := fun as M k => match as with
  | [.inr (.inr (.inl (al0, bl0, cl0))), .inl x1, .inl x2] => if al0 = 40 ∧ bl0 = 0 ∧ cl0 = 0 then (mK_advance x1 x2 M).bind fun q => k (aI q.1) q.2 else none
  | _ => none
theorem wK_advance {E : EV} (hsd : E.2.2.2 = 1) (l : Launch) (x1 : Int32) (x2 : Int32) (M : Mem) (q : (Int32 × Mem)) (hq : mK_advance x1 x2 M = some q) : Con E l 3 yK_advance prog_13_method_62_code 3 (some .int) [aR (40, 0, 0), aI x1, aI x2] M (outI q).1 (outI q).2 := by
  refine con_of iK_advance (Nat.le_of_ble_eq_true rfl) ?_
  intro p e s m args below meth c C
  exact lK_advance (oK_advance hsd l) C x1 x2 M _ hq
theorem kK_advance {E : EV} (hsd : E.2.2.2 = 1) (l : Launch) {β : Type} : DenOK E l 3 yK_advance prog_13_method_62_code 3 (some .int) true (dK_advance (β := β)) := by
  intro as M k res h
  unfold dK_advance at h
  split at h
  ·
    split at h
    · rename_i hc
      obtain ⟨rfl, rfl, rfl⟩ := hc
      obtain ⟨q, hq, hk⟩ := Option.bind_eq_some_iff.mp h
      exact ⟨aI q.1, q.2, hk, rfl, wK_advance hsd l _ _ M q hq⟩
    · cases h
  · cases h
theorem qK_advance {β : Type} : RecOK 40 (dK_advance (β := β)) := by
  intro as M k res h
  unfold dK_advance at h
  split at h
  ·
    split at h
    · rename_i hc
      obtain ⟨rfl, rfl, rfl⟩ := hc
      exact ⟨_, _, _, rfl⟩
    · cases h
  · cases h
/-! ===== FreeLancesModel.truce(IIII)I ===== -/
abbrev yK_truce : MethodName := ⟨"FreeLancesModel", "truce", "(IIII)I"⟩
theorem iK_truce : MI yK_truce prog_13_method_63_code 5 (some .int) 4 := ⟨tw1564, tw108, ⟨by decide, by decide⟩, by decide +kernel, by decide, by decide⟩
def cK_truce : List (Ent (Int32 × Mem)) := [(false, 0, 1, sLdA 0),
  (false, 1, 1, sLdI 1),
  (false, 2, 3, sInv 2 true dK_isCompany),
  (false, 5, 3, sIfEq 30),
  (false, 8, 1, sLdA 0),
  (false, 9, 1, sLdI 2),
  (false, 10, 3, sInv 2 true dK_isCompany),
  (false, 13, 3, sIfEq 30),
  (false, 16, 1, sLdI 1),
  (false, 17, 1, sLdI 2),
  (false, 18, 3, sCmpEq 30),
  (false, 21, 1, sLdI 3),
  (false, 22, 2, sLdI 4),
  (false, 24, 3, sInv 2 true dK_areDays),
  (false, 27, 3, sIfNe 36),
  (false, 30, 1, sLdA 0),
  (false, 31, 1, sC 1),
  (false, 32, 3, sInv 2 true dK_finds),
  (false, 35, 1, sRetI),
  (false, 36, 1, sLdA 0),
  (false, 37, 3, sInv 1 true dK_isFull),
  (false, 40, 3, sIfEq 51),
  (false, 43, 1, sLdA 0),
  (false, 44, 1, sC 4),
  (false, 45, 3, sInv 2 true dK_finds),
  (false, 48, 3, sGoto 64),
  (false, 51, 1, sLdA 0),
  (false, 52, 1, sC 4),
  (false, 53, 1, sLdI 1),
  (false, 54, 1, sLdI 3),
  (false, 55, 2, sLdI 4),
  (false, 57, 1, sC 0),
  (false, 58, 1, sC (-1)),
  (false, 59, 1, sC (-1)),
  (false, 60, 1, sLdI 2),
  (false, 61, 3, sInv 9 true dK_newBond),
  (false, 64, 1, sRetI)]
theorem oK_truce {E : EV} (hsd : E.2.2.2 = 1) (l : Launch) : AllOK E l 3 "FreeLancesModel" prog_13_method_63_code 5 (some .int) outI (cK_truce) := by
  refine ak (ok_aload_n (k := 0) rfl (by decide +kernel)) ?_
  refine ak (ok_iload_n (k := 1) rfl (by decide +kernel)) ?_
  refine ak (ok_invV (r := 40) (kK_isCompany hsd l) qK_isCompany ck11 kd40 iK_isCompany tw1392 tw44 (by decide) tw1390 (by decide +kernel)) ?_
  refine ak (ok_if_eq (off := 25) (by decide) (by decide +kernel)) ?_
  refine ak (ok_aload_n (k := 0) rfl (by decide +kernel)) ?_
  refine ak (ok_iload_n (k := 2) rfl (by decide +kernel)) ?_
  refine ak (ok_invV (r := 40) (kK_isCompany hsd l) qK_isCompany ck11 kd40 iK_isCompany tw1392 tw44 (by decide) tw1390 (by decide +kernel)) ?_
  refine ak (ok_if_eq (off := 17) (by decide) (by decide +kernel)) ?_
  refine ak (ok_iload_n (k := 1) rfl (by decide +kernel)) ?_
  refine ak (ok_iload_n (k := 2) rfl (by decide +kernel)) ?_
  refine ak (ok_icmp_eq (off := 12) (by decide) (by decide +kernel)) ?_
  refine ak (ok_iload_n (k := 3) rfl (by decide +kernel)) ?_
  refine ak (ok_iload (by decide +kernel)) ?_
  refine ak (ok_invS (kK_areDays hsd l) iK_areDays tw1531 (by decide) tw1530 (by decide +kernel)) ?_
  refine ak (ok_if_ne (off := 9) (by decide) (by decide +kernel)) ?_
  refine ak (ok_aload_n (k := 0) rfl (by decide +kernel)) ?_
  refine ak (ok_iconst (n := 1) (by decide) (by decide +kernel)) ?_
  refine ak (ok_invV (r := 40) (kK_finds hsd l) qK_finds ck11 kd40 iK_finds tw1334 tw37 (by decide) tw1332 (by decide +kernel)) ?_
  refine ak (ok_ireturn rfl (by decide +kernel)) ?_
  refine ak (ok_aload_n (k := 0) rfl (by decide +kernel)) ?_
  refine ak (ok_invV (r := 40) (kK_isFull hsd l) qK_isFull ck11 kd40 iK_isFull tw1535 tw64 (by decide) tw1533 (by decide +kernel)) ?_
  refine ak (ok_if_eq (off := 11) (by decide) (by decide +kernel)) ?_
  refine ak (ok_aload_n (k := 0) rfl (by decide +kernel)) ?_
  refine ak (ok_iconst (n := 4) (by decide) (by decide +kernel)) ?_
  refine ak (ok_invV (r := 40) (kK_finds hsd l) qK_finds ck11 kd40 iK_finds tw1334 tw37 (by decide) tw1332 (by decide +kernel)) ?_
  refine ak (ok_goto (off := 16) (by decide) (by decide +kernel)) ?_
  refine ak (ok_aload_n (k := 0) rfl (by decide +kernel)) ?_
  refine ak (ok_iconst (n := 4) (by decide) (by decide +kernel)) ?_
  refine ak (ok_iload_n (k := 1) rfl (by decide +kernel)) ?_
  refine ak (ok_iload_n (k := 3) rfl (by decide +kernel)) ?_
  refine ak (ok_iload (by decide +kernel)) ?_
  refine ak (ok_iconst (n := 0) (by decide) (by decide +kernel)) ?_
  refine ak (ok_iconst (n := (-1)) (by decide) (by decide +kernel)) ?_
  refine ak (ok_iconst (n := (-1)) (by decide) (by decide +kernel)) ?_
  refine ak (ok_iload_n (k := 2) rfl (by decide +kernel)) ?_
  refine ak (ok_invV (r := 40) (kK_newBond hsd l) qK_newBond ck11 kd40 iK_newBond tw1539 tw65 (by decide) tw1537 (by decide +kernel)) ?_
  refine ak (ok_ireturn rfl (by decide +kernel)) ?_
  exact trivial
set_option maxRecDepth 1000000 in
theorem eK_truce (x1 : Int32) (x2 : Int32) (x3 : Int32) (x4 : Int32) (M : Mem) : run (cK_truce) (fun _ _ _ _ => none) rtI 400 (seek (cK_truce) 0) [aR (40, 0, 0), aI x1, aI x2, aI x3, aI x4] [] M = mK_truce x1 x2 x3 x4 M := id rfl
theorem lK_truce {E : EV} {l : Launch} {p : Program} {e : Env} {s : State} {m : MethodId} {args : Array Value} {below : List Frame} {meth : Method} {c : Code} (A : AllOK E l 3 "FreeLancesModel" prog_13_method_63_code 5 (some .int) outI (cK_truce)) (C : Cx E p s m args meth c "FreeLancesModel" prog_13_method_63_code 5 (some .int)) : ∀ (x1 : Int32) (x2 : Int32) (x3 : Int32) (x4 : Int32) (M : Mem) (res : (Int32 × Mem)), mK_truce x1 x2 x3 x4 M = some res → Wm E p l e 3 s m args below meth c 5 0 [aR (40, 0, 0), aI x1, aI x2, aI x3, aI x4] [] M (outI res).1 (outI res).2 := by
  intro x1 x2 x3 x4 M res h
  refine run_at C A rfl hrtI (n := 400) ((eK_truce x1 x2 x3 x4 M).trans h) ?_
  intro t als st M hk; cases hk
def dK_truce {β : Type} : Den β := fun as M k => match as with
  | [.inr (.inr (.inl (al0, bl0, cl0))), .inl x1, .inl x2, .inl x3, .inl x4] => if al0 = 40 ∧ bl0 = 0 ∧ cl0 = 0 then (mK_truce x1 x2 x3 x4 M).bind fun q => k (aI q.1) q.2 else none
  | _ => none
theorem wK_truce {E : EV} (hsd : E.2.2.2 = 1) (l : Launch) (x1 : Int32) (x2 : Int32) (x3 : Int32) (x4 : Int32) (M : Mem) (q : (Int32 × Mem)) (hq : mK_truce x1 x2 x3 x4 M = some q) : Con E l 3 yK_truce prog_13_method_63_code 5 (some .int) [aR (40, 0, 0), aI x1, aI x2, aI x3, aI x4] M (outI q).1 (outI q).2 := by
  refine con_of iK_truce (Nat.le_of_ble_eq_true rfl) ?_
  intro p e s m args below meth c C
  exact lK_truce (oK_truce hsd l) C x1 x2 x3 x4 M _ hq
theorem kK_truce {E : EV} (hsd : E.2.2.2 = 1) (l : Launch) {β : Type} : DenOK E l 3 yK_truce prog_13_method_63_code 5 (some .int) true (dK_truce (β := β)) := by
  intro as M k res h
  unfold dK_truce at h
  split at h
  ·
    split at h
    · rename_i hc
      obtain ⟨rfl, rfl, rfl⟩ := hc
      obtain ⟨q, hq, hk⟩ := Option.bind_eq_some_iff.mp h
      exact ⟨aI q.1, q.2, hk, rfl, wK_truce hsd l _ _ _ _ M q hq⟩
    · cases h
  · cases h
theorem qK_truce {β : Type} : RecOK 40 (dK_truce (β := β)) := by
  intro as M k res h
  unfold dK_truce at h
  split at h
  ·
    split at h
    · rename_i hc
      obtain ⟨rfl, rfl, rfl⟩ := hc
      exact ⟨_, _, _, rfl⟩
    · cases h
  · cases h
/-! ===== FreeLancesModel.safe(IIIII)I ===== -/
abbrev yK_safe : MethodName := ⟨"FreeLancesModel", "safe", "(IIIII)I"⟩
theorem iK_safe : MI yK_safe prog_13_method_64_code 6 (some .int) 5 := ⟨tw1568, tw108, ⟨by decide, by decide⟩, by decide +kernel, by decide, by decide⟩
def cK_safe : List (Ent (Int32 × Mem)) := [(false, 0, 1, sLdA 0),
  (false, 1, 1, sLdI 1),
  (false, 2, 3, sInv 2 true dK_isCompany),
  (false, 5, 3, sIfEq 37),
  (false, 8, 1, sLdA 0),
  (false, 9, 1, sLdI 2),
  (false, 10, 3, sInv 2 true dK_isTown),
  (false, 13, 3, sIfEq 37),
  (false, 16, 1, sLdI 3),
  (false, 17, 2, sLdI 4),
  (false, 19, 3, sInv 2 true dK_areDays),
  (false, 22, 3, sIfEq 37),
  (false, 25, 2, sLdI 5),
  (false, 27, 1, sC 0),
  (false, 28, 3, sC 9999),
  (false, 31, 3, sInv 3 true dK_in),
  (false, 34, 3, sIfNe 43),
  (false, 37, 1, sLdA 0),
  (false, 38, 1, sC 1),
  (false, 39, 3, sInv 2 true dK_finds),
  (false, 42, 1, sRetI),
  (false, 43, 1, sLdA 0),
  (false, 44, 1, sLdI 2),
  (false, 45, 1, sC 0),
  (false, 46, 3, sInv 3 true dK_ofTown),
  (false, 49, 2, sLdI 5),
  (false, 51, 3, sCmpGe 60),
  (false, 54, 1, sLdA 0),
  (false, 55, 1, sC 2),
  (false, 56, 3, sInv 2 true dK_finds),
  (false, 59, 1, sRetI),
  (false, 60, 1, sLdA 0),
  (false, 61, 3, sInv 1 true dK_isFull),
  (false, 64, 3, sIfEq 73),
  (false, 67, 1, sLdA 0),
  (false, 68, 1, sC 4),
  (false, 69, 3, sInv 2 true dK_finds),
  (false, 72, 1, sRetI),
  (false, 73, 1, sLdA 0),
  (false, 74, 1, sLdI 2),
  (false, 75, 1, sLdI 1),
  (false, 76, 2, sLdI 5),
  (false, 78, 3, sInv 4 false dK_gives),
  (false, 81, 1, sLdA 0),
  (false, 82, 2, sC 6),
  (false, 84, 1, sLdI 1),
  (false, 85, 1, sLdI 3),
  (false, 86, 2, sLdI 4),
  (false, 88, 2, sLdI 5),
  (false, 90, 1, sLdI 2),
  (false, 91, 1, sC (-1)),
  (false, 92, 1, sC (-1)),
  (false, 93, 3, sInv 9 true dK_newBond),
  (false, 96, 1, sRetI)]
theorem oK_safe {E : EV} (hsd : E.2.2.2 = 1) (l : Launch) : AllOK E l 3 "FreeLancesModel" prog_13_method_64_code 6 (some .int) outI (cK_safe) := by
  refine ak (ok_aload_n (k := 0) rfl (by decide +kernel)) ?_
  refine ak (ok_iload_n (k := 1) rfl (by decide +kernel)) ?_
  refine ak (ok_invV (r := 40) (kK_isCompany hsd l) qK_isCompany ck11 kd40 iK_isCompany tw1392 tw44 (by decide) tw1390 (by decide +kernel)) ?_
  refine ak (ok_if_eq (off := 32) (by decide) (by decide +kernel)) ?_
  refine ak (ok_aload_n (k := 0) rfl (by decide +kernel)) ?_
  refine ak (ok_iload_n (k := 2) rfl (by decide +kernel)) ?_
  refine ak (ok_invV (r := 40) (kK_isTown hsd l) qK_isTown ck11 kd40 iK_isTown tw1343 tw38 (by decide) tw1341 (by decide +kernel)) ?_
  refine ak (ok_if_eq (off := 24) (by decide) (by decide +kernel)) ?_
  refine ak (ok_iload_n (k := 3) rfl (by decide +kernel)) ?_
  refine ak (ok_iload (by decide +kernel)) ?_
  refine ak (ok_invS (kK_areDays hsd l) iK_areDays tw1531 (by decide) tw1530 (by decide +kernel)) ?_
  refine ak (ok_if_eq (off := 15) (by decide) (by decide +kernel)) ?_
  refine ak (ok_iload (by decide +kernel)) ?_
  refine ak (ok_iconst (n := 0) (by decide) (by decide +kernel)) ?_
  refine ak (ok_sipush (n := 9999) (by decide) (by decide +kernel)) ?_
  refine ak (ok_invS (kK_in hsd l) iK_in tw1330 (by decide) tw1329 (by decide +kernel)) ?_
  refine ak (ok_if_ne (off := 9) (by decide) (by decide +kernel)) ?_
  refine ak (ok_aload_n (k := 0) rfl (by decide +kernel)) ?_
  refine ak (ok_iconst (n := 1) (by decide) (by decide +kernel)) ?_
  refine ak (ok_invV (r := 40) (kK_finds hsd l) qK_finds ck11 kd40 iK_finds tw1334 tw37 (by decide) tw1332 (by decide +kernel)) ?_
  refine ak (ok_ireturn rfl (by decide +kernel)) ?_
  refine ak (ok_aload_n (k := 0) rfl (by decide +kernel)) ?_
  refine ak (ok_iload_n (k := 2) rfl (by decide +kernel)) ?_
  refine ak (ok_iconst (n := 0) (by decide) (by decide +kernel)) ?_
  refine ak (ok_invV (r := 40) (kK_ofTown hsd l) qK_ofTown ck11 kd40 iK_ofTown tw1359 tw40 (by decide) tw1357 (by decide +kernel)) ?_
  refine ak (ok_iload (by decide +kernel)) ?_
  refine ak (ok_icmp_ge (off := 9) (by decide) (by decide +kernel)) ?_
  refine ak (ok_aload_n (k := 0) rfl (by decide +kernel)) ?_
  refine ak (ok_iconst (n := 2) (by decide) (by decide +kernel)) ?_
  refine ak (ok_invV (r := 40) (kK_finds hsd l) qK_finds ck11 kd40 iK_finds tw1334 tw37 (by decide) tw1332 (by decide +kernel)) ?_
  refine ak (ok_ireturn rfl (by decide +kernel)) ?_
  refine ak (ok_aload_n (k := 0) rfl (by decide +kernel)) ?_
  refine ak (ok_invV (r := 40) (kK_isFull hsd l) qK_isFull ck11 kd40 iK_isFull tw1535 tw64 (by decide) tw1533 (by decide +kernel)) ?_
  refine ak (ok_if_eq (off := 9) (by decide) (by decide +kernel)) ?_
  refine ak (ok_aload_n (k := 0) rfl (by decide +kernel)) ?_
  refine ak (ok_iconst (n := 4) (by decide) (by decide +kernel)) ?_
  refine ak (ok_invV (r := 40) (kK_finds hsd l) qK_finds ck11 kd40 iK_finds tw1334 tw37 (by decide) tw1332 (by decide +kernel)) ?_
  refine ak (ok_ireturn rfl (by decide +kernel)) ?_
  refine ak (ok_aload_n (k := 0) rfl (by decide +kernel)) ?_
  refine ak (ok_iload_n (k := 2) rfl (by decide +kernel)) ?_
  refine ak (ok_iload_n (k := 1) rfl (by decide +kernel)) ?_
  refine ak (ok_iload (by decide +kernel)) ?_
  refine ak (ok_invV (r := 40) (kK_gives hsd l) qK_gives ck11 kd40 iK_gives tw1559 tw68 (by decide) tw1557 (by decide +kernel)) ?_
  refine ak (ok_aload_n (k := 0) rfl (by decide +kernel)) ?_
  refine ak (ok_bipush (n := 6) (by decide) (by decide +kernel)) ?_
  refine ak (ok_iload_n (k := 1) rfl (by decide +kernel)) ?_
  refine ak (ok_iload_n (k := 3) rfl (by decide +kernel)) ?_
  refine ak (ok_iload (by decide +kernel)) ?_
  refine ak (ok_iload (by decide +kernel)) ?_
  refine ak (ok_iload_n (k := 2) rfl (by decide +kernel)) ?_
  refine ak (ok_iconst (n := (-1)) (by decide) (by decide +kernel)) ?_
  refine ak (ok_iconst (n := (-1)) (by decide) (by decide +kernel)) ?_
  refine ak (ok_invV (r := 40) (kK_newBond hsd l) qK_newBond ck11 kd40 iK_newBond tw1539 tw65 (by decide) tw1537 (by decide +kernel)) ?_
  refine ak (ok_ireturn rfl (by decide +kernel)) ?_
  exact trivial
set_option maxRecDepth 1000000 in
theorem eK_safe (x1 : Int32) (x2 : Int32) (x3 : Int32) (x4 : Int32) (x5 : Int32) (M : Mem) : run (cK_safe) (fun _ _ _ _ => none) rtI 400 (seek (cK_safe) 0) [aR (40, 0, 0), aI x1, aI x2, aI x3, aI x4, aI x5] [] M = mK_safe x1 x2 x3 x4 x5 M := id rfl
theorem lK_safe {E : EV} {l : Launch} {p : Program} {e : Env} {s : State} {m : MethodId} {args : Array Value} {below : List Frame} {meth : Method} {c : Code} (A : AllOK E l 3 "FreeLancesModel" prog_13_method_64_code 6 (some .int) outI (cK_safe)) (C : Cx E p s m args meth c "FreeLancesModel" prog_13_method_64_code 6 (some .int)) : ∀ (x1 : Int32) (x2 : Int32) (x3 : Int32) (x4 : Int32) (x5 : Int32) (M : Mem) (res : (Int32 × Mem)), mK_safe x1 x2 x3 x4 x5 M = some res → Wm E p l e 3 s m args below meth c 6 0 [aR (40, 0, 0), aI x1, aI x2, aI x3, aI x4, aI x5] [] M (outI res).1 (outI res).2 := by
  intro x1 x2 x3 x4 x5 M res h
  refine run_at C A rfl hrtI (n := 400) ((eK_safe x1 x2 x3 x4 x5 M).trans h) ?_
  intro t als st M hk; cases hk
def dK_safe {β : Type} : Den β := fun as M k => match as with
  | [.inr (.inr (.inl (al0, bl0, cl0))), .inl x1, .inl x2, .inl x3, .inl x4, .inl x5] => if al0 = 40 ∧ bl0 = 0 ∧ cl0 = 0 then (mK_safe x1 x2 x3 x4 x5 M).bind fun q => k (aI q.1) q.2 else none
  | _ => none
theorem wK_safe {E : EV} (hsd : E.2.2.2 = 1) (l : Launch) (x1 : Int32) (x2 : Int32) (x3 : Int32) (x4 : Int32) (x5 : Int32) (M : Mem) (q : (Int32 × Mem)) (hq : mK_safe x1 x2 x3 x4 x5 M = some q) : Con E l 3 yK_safe prog_13_method_64_code 6 (some .int) [aR (40, 0, 0), aI x1, aI x2, aI x3, aI x4, aI x5] M (outI q).1 (outI q).2 := by
  refine con_of iK_safe (Nat.le_of_ble_eq_true rfl) ?_
  intro p e s m args below meth c C
  exact lK_safe (oK_safe hsd l) C x1 x2 x3 x4 x5 M _ hq
theorem kK_safe {E : EV} (hsd : E.2.2.2 = 1) (l : Launch) {β : Type} : DenOK E l 3 yK_safe prog_13_method_64_code 6 (some .int) true (dK_safe (β := β)) := by
  intro as M k res h
  unfold dK_safe at h
  split at h
  ·
    split at h
    · rename_i hc
      obtain ⟨rfl, rfl, rfl⟩ := hc
      obtain ⟨q, hq, hk⟩ := Option.bind_eq_some_iff.mp h
      exact ⟨aI q.1, q.2, hk, rfl, wK_safe hsd l _ _ _ _ _ M q hq⟩
    · cases h
  · cases h
theorem qK_safe {β : Type} : RecOK 40 (dK_safe (β := β)) := by
  intro as M k res h
  unfold dK_safe at h
  split at h
  ·
    split at h
    · rename_i hc
      obtain ⟨rfl, rfl, rfl⟩ := hc
      exact ⟨_, _, _, rfl⟩
    · cases h
  · cases h
/-! ===== FreeLancesModel.ransom(II)I ===== -/
abbrev yK_ransom : MethodName := ⟨"FreeLancesModel", "ransom", "(II)I"⟩
theorem iK_ransom : MI yK_ransom prog_13_method_65_code 5 (some .int) 2 := ⟨tw1572, tw108, ⟨by decide, by decide⟩, by decide +kernel, by decide, by decide⟩
def cK_ransom : List (Ent (Int32 × Mem)) := [(false, 0, 1, sLdA 0),
  (false, 1, 1, sLdI 1),
  (false, 2, 3, sInv 2 true dK_isLance),
  (false, 5, 3, sIfEq 19),
  (false, 8, 1, sLdI 2),
  (false, 9, 1, sC 0),
  (false, 10, 3, sC 9999),
  (false, 13, 3, sInv 3 true dK_in),
  (false, 16, 3, sIfNe 25),
  (false, 19, 1, sLdA 0),
  (false, 20, 1, sC 1),
  (false, 21, 3, sInv 2 true dK_finds),
  (false, 24, 1, sRetI),
  (false, 25, 1, sLdA 0),
  (false, 26, 1, sLdI 1),
  (false, 27, 1, sC 4),
  (false, 28, 3, sInv 3 true dK_its),
  (false, 31, 1, sStI 3),
  (false, 32, 1, sLdA 0),
  (false, 33, 1, sLdI 1),
  (false, 34, 1, sC 0),
  (false, 35, 3, sInv 3 true dK_its),
  (false, 38, 2, sStI 4),
  (false, 40, 1, sLdI 3),
  (false, 41, 3, sIfGe 50),
  (false, 44, 1, sLdA 0),
  (false, 45, 1, sC 3),
  (false, 46, 3, sInv 2 true dK_finds),
  (false, 49, 1, sRetI),
  (false, 50, 1, sLdA 0),
  (false, 51, 2, sLdI 4),
  (false, 53, 1, sC 0),
  (false, 54, 3, sInv 3 true dK_own),
  (false, 57, 1, sLdI 2),
  (false, 58, 3, sCmpGe 67),
  (false, 61, 1, sLdA 0),
  (false, 62, 1, sC 2),
  (false, 63, 3, sInv 2 true dK_finds),
  (false, 66, 1, sRetI),
  (false, 67, 1, sLdA 0),
  (false, 68, 3, sInv 1 true dK_isFull),
  (false, 71, 3, sIfEq 80),
  (false, 74, 1, sLdA 0),
  (false, 75, 1, sC 4),
  (false, 76, 3, sInv 2 true dK_finds),
  (false, 79, 1, sRetI),
  (false, 80, 1, sLdA 0),
  (false, 81, 1, sLdI 3),
  (false, 82, 2, sLdI 4),
  (false, 84, 1, sLdI 2),
  (false, 85, 1, sUn (fun x => -x)),
  (false, 86, 3, sInv 4 false dK_gives),
  (false, 89, 1, sLdA 0),
  (false, 90, 1, sLdI 1),
  (false, 91, 1, sC 0),
  (false, 92, 3, sInv 3 false dK_turns),
  (false, 95, 1, sLdA 0),
  (false, 96, 3, sGet 40 (fun w i M => aR (41, 0, 0))),
  (false, 99, 3, sC 220),
  (false, 102, 1, sC 5),
  (false, 103, 1, sLdI 1),
  (false, 104, 1, sBin (fun x y => x * y)),
  (false, 105, 1, sBin (fun x y => x + y)),
  (false, 106, 1, sC 4),
  (false, 107, 1, sBin (fun x y => x + y)),
  (false, 108, 1, sC (-1)),
  (false, 109, 1, sIast 41 1502),
  (false, 110, 1, sLdA 0),
  (false, 111, 1, sC 5),
  (false, 112, 2, sLdI 4),
  (false, 114, 1, sC (-1)),
  (false, 115, 1, sC (-1)),
  (false, 116, 1, sLdI 2),
  (false, 117, 1, sLdI 3),
  (false, 118, 1, sC (-1)),
  (false, 119, 1, sLdI 1),
  (false, 120, 3, sInv 9 true dK_newBond),
  (false, 123, 1, sRetI)]
theorem oK_ransom {E : EV} (hsd : E.2.2.2 = 1) (l : Launch) : AllOK E l 3 "FreeLancesModel" prog_13_method_65_code 5 (some .int) outI (cK_ransom) := by
  refine ak (ok_aload_n (k := 0) rfl (by decide +kernel)) ?_
  refine ak (ok_iload_n (k := 1) rfl (by decide +kernel)) ?_
  refine ak (ok_invV (r := 40) (kK_isLance hsd l) qK_isLance ck11 kd40 iK_isLance tw1436 tw51 (by decide) tw1434 (by decide +kernel)) ?_
  refine ak (ok_if_eq (off := 14) (by decide) (by decide +kernel)) ?_
  refine ak (ok_iload_n (k := 2) rfl (by decide +kernel)) ?_
  refine ak (ok_iconst (n := 0) (by decide) (by decide +kernel)) ?_
  refine ak (ok_sipush (n := 9999) (by decide) (by decide +kernel)) ?_
  refine ak (ok_invS (kK_in hsd l) iK_in tw1330 (by decide) tw1329 (by decide +kernel)) ?_
  refine ak (ok_if_ne (off := 9) (by decide) (by decide +kernel)) ?_
  refine ak (ok_aload_n (k := 0) rfl (by decide +kernel)) ?_
  refine ak (ok_iconst (n := 1) (by decide) (by decide +kernel)) ?_
  refine ak (ok_invV (r := 40) (kK_finds hsd l) qK_finds ck11 kd40 iK_finds tw1334 tw37 (by decide) tw1332 (by decide +kernel)) ?_
  refine ak (ok_ireturn rfl (by decide +kernel)) ?_
  refine ak (ok_aload_n (k := 0) rfl (by decide +kernel)) ?_
  refine ak (ok_iload_n (k := 1) rfl (by decide +kernel)) ?_
  refine ak (ok_iconst (n := 4) (by decide) (by decide +kernel)) ?_
  refine ak (ok_invV (r := 40) (kK_its hsd l) qK_its ck11 kd40 iK_its tw1408 tw46 (by decide) tw1406 (by decide +kernel)) ?_
  refine ak (ok_istore_n (k := 3) rfl (by decide) (by decide +kernel)) ?_
  refine ak (ok_aload_n (k := 0) rfl (by decide +kernel)) ?_
  refine ak (ok_iload_n (k := 1) rfl (by decide +kernel)) ?_
  refine ak (ok_iconst (n := 0) (by decide) (by decide +kernel)) ?_
  refine ak (ok_invV (r := 40) (kK_its hsd l) qK_its ck11 kd40 iK_its tw1408 tw46 (by decide) tw1406 (by decide +kernel)) ?_
  refine ak (ok_istore (by decide) (by decide +kernel)) ?_
  refine ak (ok_iload_n (k := 3) rfl (by decide +kernel)) ?_
  refine ak (ok_if_ge (off := 9) (by decide) (by decide +kernel)) ?_
  refine ak (ok_aload_n (k := 0) rfl (by decide +kernel)) ?_
  refine ak (ok_iconst (n := 3) (by decide) (by decide +kernel)) ?_
  refine ak (ok_invV (r := 40) (kK_finds hsd l) qK_finds ck11 kd40 iK_finds tw1334 tw37 (by decide) tw1332 (by decide +kernel)) ?_
  refine ak (ok_ireturn rfl (by decide +kernel)) ?_
  refine ak (ok_aload_n (k := 0) rfl (by decide +kernel)) ?_
  refine ak (ok_iload (by decide +kernel)) ?_
  refine ak (ok_iconst (n := 0) (by decide) (by decide +kernel)) ?_
  refine ak (ok_invV (r := 40) (kK_own hsd l) qK_own ck11 kd40 iK_own tw1363 tw41 (by decide) tw1361 (by decide +kernel)) ?_
  refine ak (ok_iload_n (k := 2) rfl (by decide +kernel)) ?_
  refine ak (ok_icmp_ge (off := 9) (by decide) (by decide +kernel)) ?_
  refine ak (ok_aload_n (k := 0) rfl (by decide +kernel)) ?_
  refine ak (ok_iconst (n := 2) (by decide) (by decide +kernel)) ?_
  refine ak (ok_invV (r := 40) (kK_finds hsd l) qK_finds ck11 kd40 iK_finds tw1334 tw37 (by decide) tw1332 (by decide +kernel)) ?_
  refine ak (ok_ireturn rfl (by decide +kernel)) ?_
  refine ak (ok_aload_n (k := 0) rfl (by decide +kernel)) ?_
  refine ak (ok_invV (r := 40) (kK_isFull hsd l) qK_isFull ck11 kd40 iK_isFull tw1535 tw64 (by decide) tw1533 (by decide +kernel)) ?_
  refine ak (ok_if_eq (off := 9) (by decide) (by decide +kernel)) ?_
  refine ak (ok_aload_n (k := 0) rfl (by decide +kernel)) ?_
  refine ak (ok_iconst (n := 4) (by decide) (by decide +kernel)) ?_
  refine ak (ok_invV (r := 40) (kK_finds hsd l) qK_finds ck11 kd40 iK_finds tw1334 tw37 (by decide) tw1332 (by decide +kernel)) ?_
  refine ak (ok_ireturn rfl (by decide +kernel)) ?_
  refine ak (ok_aload_n (k := 0) rfl (by decide +kernel)) ?_
  refine ak (ok_iload_n (k := 3) rfl (by decide +kernel)) ?_
  refine ak (ok_iload (by decide +kernel)) ?_
  refine ak (ok_iload_n (k := 2) rfl (by decide +kernel)) ?_
  refine ak (ok_ineg (by decide +kernel)) ?_
  refine ak (ok_invV (r := 40) (kK_gives hsd l) qK_gives ck11 kd40 iK_gives tw1559 tw68 (by decide) tw1557 (by decide +kernel)) ?_
  refine ak (ok_aload_n (k := 0) rfl (by decide +kernel)) ?_
  refine ak (ok_iload_n (k := 1) rfl (by decide +kernel)) ?_
  refine ak (ok_iconst (n := 0) (by decide) (by decide +kernel)) ?_
  refine ak (ok_invV (r := 40) (kK_turns hsd l) qK_turns ck11 kd40 iK_turns tw1463 tw55 (by decide) tw1461 (by decide +kernel)) ?_
  refine ak (ok_aload_n (k := 0) rfl (by decide +kernel)) ?_
  refine ak (ok_get (k := 0) ck11 kd40 (by decide) (fun _ _ _ => rfl) (vf_40_0 hsd) tw1242 (by decide +kernel)) ?_
  refine ak (ok_sipush (n := 220) (by decide) (by decide +kernel)) ?_
  refine ak (ok_iconst (n := 5) (by decide) (by decide +kernel)) ?_
  refine ak (ok_iload_n (k := 1) rfl (by decide +kernel)) ?_
  refine ak (ok_imul (by decide +kernel)) ?_
  refine ak (ok_iadd (by decide +kernel)) ?_
  refine ak (ok_iconst (n := 4) (by decide) (by decide +kernel)) ?_
  refine ak (ok_iadd (by decide +kernel)) ?_
  refine ak (ok_iconst (n := (-1)) (by decide) (by decide +kernel)) ?_
  refine ak (ok_iast kd41 (by decide) (by decide) (by decide +kernel)) ?_
  refine ak (ok_aload_n (k := 0) rfl (by decide +kernel)) ?_
  refine ak (ok_iconst (n := 5) (by decide) (by decide +kernel)) ?_
  refine ak (ok_iload (by decide +kernel)) ?_
  refine ak (ok_iconst (n := (-1)) (by decide) (by decide +kernel)) ?_
  refine ak (ok_iconst (n := (-1)) (by decide) (by decide +kernel)) ?_
  refine ak (ok_iload_n (k := 2) rfl (by decide +kernel)) ?_
  refine ak (ok_iload_n (k := 3) rfl (by decide +kernel)) ?_
  refine ak (ok_iconst (n := (-1)) (by decide) (by decide +kernel)) ?_
  refine ak (ok_iload_n (k := 1) rfl (by decide +kernel)) ?_
  refine ak (ok_invV (r := 40) (kK_newBond hsd l) qK_newBond ck11 kd40 iK_newBond tw1539 tw65 (by decide) tw1537 (by decide +kernel)) ?_
  refine ak (ok_ireturn rfl (by decide +kernel)) ?_
  exact trivial
set_option maxRecDepth 1000000 in
theorem eK_ransom (x1 : Int32) (x2 : Int32) (M : Mem) : run (cK_ransom) (fun _ _ _ _ => none) rtI 400 (seek (cK_ransom) 0) [aR (40, 0, 0), aI x1, aI x2, aU, aU] [] M = mK_ransom x1 x2 M := id rfl
theorem lK_ransom {E : EV} {l : Launch} {p : Program} {e : Env} {s : State} {m : MethodId} {args : Array Value} {below : List Frame} {meth : Method} {c : Code} (A : AllOK E l 3 "FreeLancesModel" prog_13_method_65_code 5 (some .int) outI (cK_ransom)) (C : Cx E p s m args meth c "FreeLancesModel" prog_13_method_65_code 5 (some .int)) : ∀ (x1 : Int32) (x2 : Int32) (M : Mem) (res : (Int32 × Mem)), mK_ransom x1 x2 M = some res → Wm E p l e 3 s m args below meth c 5 0 [aR (40, 0, 0), aI x1, aI x2, aU, aU] [] M (outI res).1 (outI res).2 := by
  intro x1 x2 M res h
  refine run_at C A rfl hrtI (n := 400) ((eK_ransom x1 x2 M).trans h) ?_
  intro t als st M hk; cases hk
def dK_ransom {β : Type} : Den β := fun as M k => match as with
  | [.inr (.inr (.inl (al0, bl0, cl0))), .inl x1, .inl x2] => if al0 = 40 ∧ bl0 = 0 ∧ cl0 = 0 then (mK_ransom x1 x2 M).bind fun q => k (aI q.1) q.2 else none
  | _ => none
theorem wK_ransom {E : EV} (hsd : E.2.2.2 = 1) (l : Launch) (x1 : Int32) (x2 : Int32) (M : Mem) (q : (Int32 × Mem)) (hq : mK_ransom x1 x2 M = some q) : Con E l 3 yK_ransom prog_13_method_65_code 5 (some .int) [aR (40, 0, 0), aI x1, aI x2] M (outI q).1 (outI q).2 := by
  refine con_of iK_ransom (Nat.le_of_ble_eq_true rfl) ?_
  intro p e s m args below meth c C
  exact lK_ransom (oK_ransom hsd l) C x1 x2 M _ hq
theorem kK_ransom {E : EV} (hsd : E.2.2.2 = 1) (l : Launch) {β : Type} : DenOK E l 3 yK_ransom prog_13_method_65_code 5 (some .int) true (dK_ransom (β := β)) := by
  intro as M k res h
  unfold dK_ransom at h
  split at h
  ·
    split at h
    · rename_i hc
      obtain ⟨rfl, rfl, rfl⟩ := hc
      obtain ⟨q, hq, hk⟩ := Option.bind_eq_some_iff.mp h
      exact ⟨aI q.1, q.2, hk, rfl, wK_ransom hsd l _ _ M q hq⟩
    · cases h
  · cases h
theorem qK_ransom {β : Type} : RecOK 40 (dK_ransom (β := β)) := by
  intro as M k res h
  unfold dK_ransom at h
  split at h
  ·
    split at h
    · rename_i hc
      obtain ⟨rfl, rfl, rfl⟩ := hc
      exact ⟨_, _, _, rfl⟩
    · cases h
  · cases h
/-! ===== FreeLancesModel.as(II)I ===== -/
abbrev yK_as : MethodName := ⟨"FreeLancesModel", "as", "(II)I"⟩
theorem iK_as : MI yK_as prog_13_method_66_code 4 (some .int) 2 := ⟨tw1576, tw108, ⟨by decide, by decide⟩, by decide +kernel, by decide, by decide⟩
def cK_as : List (Ent (Int32 × Mem)) := [(false, 0, 1, sLdA 0),
  (false, 1, 1, sLdI 1),
  (false, 2, 3, sInv 2 true dK_isBond),
  (false, 5, 3, sIfEq 18),
  (false, 8, 1, sLdI 2),
  (false, 9, 1, sC 0),
  (false, 10, 2, sC 6),
  (false, 12, 3, sInv 3 true dK_in),
  (false, 15, 3, sIfNe 24),
  (false, 18, 1, sLdA 0),
  (false, 19, 1, sC 1),
  (false, 20, 3, sInv 2 true dK_finds),
  (false, 23, 1, sRetI),
  (false, 24, 1, sLdA 0),
  (false, 25, 1, sLdI 1),
  (false, 26, 1, sC 0),
  (false, 27, 3, sInv 3 true dK_bond),
  (false, 30, 1, sStI 3),
  (false, 31, 1, sLdI 2),
  (false, 32, 3, sIfEq 50),
  (false, 35, 1, sLdI 2),
  (false, 36, 1, sLdI 3),
  (false, 37, 3, sCmpEq 50),
  (false, 40, 1, sLdI 2),
  (false, 41, 1, sC 1),
  (false, 42, 3, sCmpNe 59),
  (false, 45, 1, sLdI 3),
  (false, 46, 1, sC 2),
  (false, 47, 3, sCmpNe 59),
  (false, 50, 1, sLdA 0),
  (false, 51, 1, sLdI 1),
  (false, 52, 1, sC 4),
  (false, 53, 3, sInv 3 true dK_bond),
  (false, 56, 3, sGoto 64),
  (false, 59, 1, sLdA 0),
  (false, 60, 1, sC 5),
  (false, 61, 3, sInv 2 true dK_finds),
  (false, 64, 1, sRetI)]
theorem oK_as {E : EV} (hsd : E.2.2.2 = 1) (l : Launch) : AllOK E l 3 "FreeLancesModel" prog_13_method_66_code 4 (some .int) outI (cK_as) := by
  refine ak (ok_aload_n (k := 0) rfl (by decide +kernel)) ?_
  refine ak (ok_iload_n (k := 1) rfl (by decide +kernel)) ?_
  refine ak (ok_invV (r := 40) (kK_isBond hsd l) qK_isBond ck11 kd40 iK_isBond tw1551 tw67 (by decide) tw1549 (by decide +kernel)) ?_
  refine ak (ok_if_eq (off := 13) (by decide) (by decide +kernel)) ?_
  refine ak (ok_iload_n (k := 2) rfl (by decide +kernel)) ?_
  refine ak (ok_iconst (n := 0) (by decide) (by decide +kernel)) ?_
  refine ak (ok_bipush (n := 6) (by decide) (by decide +kernel)) ?_
  refine ak (ok_invS (kK_in hsd l) iK_in tw1330 (by decide) tw1329 (by decide +kernel)) ?_
  refine ak (ok_if_ne (off := 9) (by decide) (by decide +kernel)) ?_
  refine ak (ok_aload_n (k := 0) rfl (by decide +kernel)) ?_
  refine ak (ok_iconst (n := 1) (by decide) (by decide +kernel)) ?_
  refine ak (ok_invV (r := 40) (kK_finds hsd l) qK_finds ck11 kd40 iK_finds tw1334 tw37 (by decide) tw1332 (by decide +kernel)) ?_
  refine ak (ok_ireturn rfl (by decide +kernel)) ?_
  refine ak (ok_aload_n (k := 0) rfl (by decide +kernel)) ?_
  refine ak (ok_iload_n (k := 1) rfl (by decide +kernel)) ?_
  refine ak (ok_iconst (n := 0) (by decide) (by decide +kernel)) ?_
  refine ak (ok_invV (r := 40) (kK_bond hsd l) qK_bond ck11 kd40 iK_bond tw1420 tw49 (by decide) tw1418 (by decide +kernel)) ?_
  refine ak (ok_istore_n (k := 3) rfl (by decide) (by decide +kernel)) ?_
  refine ak (ok_iload_n (k := 2) rfl (by decide +kernel)) ?_
  refine ak (ok_if_eq (off := 18) (by decide) (by decide +kernel)) ?_
  refine ak (ok_iload_n (k := 2) rfl (by decide +kernel)) ?_
  refine ak (ok_iload_n (k := 3) rfl (by decide +kernel)) ?_
  refine ak (ok_icmp_eq (off := 13) (by decide) (by decide +kernel)) ?_
  refine ak (ok_iload_n (k := 2) rfl (by decide +kernel)) ?_
  refine ak (ok_iconst (n := 1) (by decide) (by decide +kernel)) ?_
  refine ak (ok_icmp_ne (off := 17) (by decide) (by decide +kernel)) ?_
  refine ak (ok_iload_n (k := 3) rfl (by decide +kernel)) ?_
  refine ak (ok_iconst (n := 2) (by decide) (by decide +kernel)) ?_
  refine ak (ok_icmp_ne (off := 12) (by decide) (by decide +kernel)) ?_
  refine ak (ok_aload_n (k := 0) rfl (by decide +kernel)) ?_
  refine ak (ok_iload_n (k := 1) rfl (by decide +kernel)) ?_
  refine ak (ok_iconst (n := 4) (by decide) (by decide +kernel)) ?_
  refine ak (ok_invV (r := 40) (kK_bond hsd l) qK_bond ck11 kd40 iK_bond tw1420 tw49 (by decide) tw1418 (by decide +kernel)) ?_
  refine ak (ok_goto (off := 8) (by decide) (by decide +kernel)) ?_
  refine ak (ok_aload_n (k := 0) rfl (by decide +kernel)) ?_
  refine ak (ok_iconst (n := 5) (by decide) (by decide +kernel)) ?_
  refine ak (ok_invV (r := 40) (kK_finds hsd l) qK_finds ck11 kd40 iK_finds tw1334 tw37 (by decide) tw1332 (by decide +kernel)) ?_
  refine ak (ok_ireturn rfl (by decide +kernel)) ?_
  exact trivial
set_option maxRecDepth 1000000 in
theorem eK_as (x1 : Int32) (x2 : Int32) (M : Mem) : run (cK_as) (fun _ _ _ _ => none) rtI 400 (seek (cK_as) 0) [aR (40, 0, 0), aI x1, aI x2, aU] [] M = mK_as x1 x2 M := id rfl
theorem lK_as {E : EV} {l : Launch} {p : Program} {e : Env} {s : State} {m : MethodId} {args : Array Value} {below : List Frame} {meth : Method} {c : Code} (A : AllOK E l 3 "FreeLancesModel" prog_13_method_66_code 4 (some .int) outI (cK_as)) (C : Cx E p s m args meth c "FreeLancesModel" prog_13_method_66_code 4 (some .int)) : ∀ (x1 : Int32) (x2 : Int32) (M : Mem) (res : (Int32 × Mem)), mK_as x1 x2 M = some res → Wm E p l e 3 s m args below meth c 4 0 [aR (40, 0, 0), aI x1, aI x2, aU] [] M (outI res).1 (outI res).2 := by
  intro x1 x2 M res h
  refine run_at C A rfl hrtI (n := 400) ((eK_as x1 x2 M).trans h) ?_
  intro t als st M hk; cases hk
def dK_as {β : Type} : Den β := fun as M k => match as with
  | [.inr (.inr (.inl (al0, bl0, cl0))), .inl x1, .inl x2] => if al0 = 40 ∧ bl0 = 0 ∧ cl0 = 0 then (mK_as x1 x2 M).bind fun q => k (aI q.1) q.2 else none
  | _ => none
theorem wK_as {E : EV} (hsd : E.2.2.2 = 1) (l : Launch) (x1 : Int32) (x2 : Int32) (M : Mem) (q : (Int32 × Mem)) (hq : mK_as x1 x2 M = some q) : Con E l 3 yK_as prog_13_method_66_code 4 (some .int) [aR (40, 0, 0), aI x1, aI x2] M (outI q).1 (outI q).2 := by
  refine con_of iK_as (Nat.le_of_ble_eq_true rfl) ?_
  intro p e s m args below meth c C
  exact lK_as (oK_as hsd l) C x1 x2 M _ hq
theorem kK_as {E : EV} (hsd : E.2.2.2 = 1) (l : Launch) {β : Type} : DenOK E l 3 yK_as prog_13_method_66_code 4 (some .int) true (dK_as (β := β)) := by
  intro as M k res h
  unfold dK_as at h
  split at h
  ·
    split at h
    · rename_i hc
      obtain ⟨rfl, rfl, rfl⟩ := hc
      obtain ⟨q, hq, hk⟩ := Option.bind_eq_some_iff.mp h
      exact ⟨aI q.1, q.2, hk, rfl, wK_as hsd l _ _ M q hq⟩
    · cases h
  · cases h
theorem qK_as {β : Type} : RecOK 40 (dK_as (β := β)) := by
  intro as M k res h
  unfold dK_as at h
  split at h
  ·
    split at h
    · rename_i hc
      obtain ⟨rfl, rfl, rfl⟩ := hc
      exact ⟨_, _, _, rfl⟩
    · cases h
  · cases h
