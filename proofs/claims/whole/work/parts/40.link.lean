/-! ===== FreeLancesModel.findWinter()V ===== -/
abbrev yK_findWinter : MethodName := ⟨"FreeLancesModel", "findWinter", "()V"⟩
theorem iK_findWinter : MI yK_findWinter prog_13_method_92_code 1 none 0 := ⟨tw1682, tw108, ⟨by decide, by decide⟩, by decide +kernel, by decide, by decide⟩
def cK_findWinter : List (Ent Mem) := [(false, 0, 1, sLdA 0),
  (false, 1, 1, sC (-1)),
  (false, 2, 3, sPut 40 15),
  (false, 5, 1, sLdA 0),
  (false, 6, 1, sC 0),
  (false, 7, 1, sC 0),
  (false, 8, 1, sC 0),
  (false, 9, 3, sInv 4 false (dK_settle xK_settle)),
  (false, 12, 1, sRetV)]
theorem oK_findWinter {E : EV} (hsd : E.2.2.2 = 1) (l : Launch) : AllOK E l 61 "FreeLancesModel" prog_13_method_92_code 1 none outV (cK_findWinter) := by
  refine ak (ok_aload_n (k := 0) rfl (by decide +kernel)) ?_
  refine ak (ok_iconst (n := (-1)) (by decide) (by decide +kernel)) ?_
  refine ak (ok_put (k := 15) ck11 kd40 (by decide) (fun _ _ _ => rfl) rfl rfl (by decide) tw1257 (by decide +kernel)) ?_
  refine ak (ok_aload_n (k := 0) rfl (by decide +kernel)) ?_
  refine ak (ok_iconst (n := 0) (by decide) (by decide +kernel)) ?_
  refine ak (ok_iconst (n := 0) (by decide) (by decide +kernel)) ?_
  refine ak (ok_iconst (n := 0) (by decide) (by decide +kernel)) ?_
  refine ak (ok_invV (r := 40) (kxK_settle hsd l) (qK_settle xK_settle) ck11 kd40 iK_settle tw1685 tw79 (by decide) tw1683 (by decide +kernel)) ?_
  refine ak (ok_return rfl (by decide +kernel)) ?_
  exact trivial
set_option maxRecDepth 1000000 in
theorem eK_findWinter (M : Mem) : run (cK_findWinter) (fun _ _ _ _ => none) rtV 400 (seek (cK_findWinter) 0) [aR (40, 0, 0)] [] M = mK_findWinter M := id rfl
theorem lK_findWinter {E : EV} {l : Launch} {p : Program} {e : Env} {s : State} {m : MethodId} {args : Array Value} {below : List Frame} {meth : Method} {c : Code} (A : AllOK E l 61 "FreeLancesModel" prog_13_method_92_code 1 none outV (cK_findWinter)) (C : Cx E p s m args meth c "FreeLancesModel" prog_13_method_92_code 1 none) : ∀ (M : Mem) (res : Mem), mK_findWinter M = some res → Wm E p l e 61 s m args below meth c 1 0 [aR (40, 0, 0)] [] M (outV res).1 (outV res).2 := by
  intro M res h
  refine run_at C A rfl hrtV (n := 400) ((eK_findWinter M).trans h) ?_
  intro t als st M hk; cases hk
def dK_findWinter {β : Type} : Den β := fun as M k => match as with
  | [.inr (.inr (.inl (al0, bl0, cl0)))] => if al0 = 40 ∧ bl0 = 0 ∧ cl0 = 0 then (mK_findWinter M).bind fun q => k aU q else none
  | _ => none
theorem wK_findWinter {E : EV} (hsd : E.2.2.2 = 1) (l : Launch) (M : Mem) (q : Mem) (hq : mK_findWinter M = some q) : Con E l 61 yK_findWinter prog_13_method_92_code 1 none [aR (40, 0, 0)] M (outV q).1 (outV q).2 := by
  refine con_of iK_findWinter (Nat.le_of_ble_eq_true rfl) ?_
  intro p e s m args below meth c C
  exact lK_findWinter (oK_findWinter hsd l) C M _ hq
theorem kK_findWinter {E : EV} (hsd : E.2.2.2 = 1) (l : Launch) {β : Type} : DenOK E l 61 yK_findWinter prog_13_method_92_code 1 none false (dK_findWinter (β := β)) := by
  intro as M k res h
  unfold dK_findWinter at h
  split at h
  ·
    split at h
    · rename_i hc
      obtain ⟨rfl, rfl, rfl⟩ := hc
      obtain ⟨q, hq, hk⟩ := Option.bind_eq_some_iff.mp h
      exact ⟨aU, q, hk, rfl, wK_findWinter hsd l M q hq⟩
    · cases h
  · cases h
theorem qK_findWinter {β : Type} : RecOK 40 (dK_findWinter (β := β)) := by
  intro as M k res h
  unfold dK_findWinter at h
  split at h
  ·
    split at h
    · rename_i hc
      obtain ⟨rfl, rfl, rfl⟩ := hc
      exact ⟨_, _, _, rfl⟩
    · cases h
  · cases h
/-! ===== FreeLancesModel.wintering(I)I ===== -/
abbrev yK_wintering : MethodName := ⟨"FreeLancesModel", "wintering", "(I)I"⟩
theorem iK_wintering : MI yK_wintering prog_13_method_93_code 2 (some .int) 1 := ⟨tw1678, tw108, ⟨by decide, by decide⟩, by decide +kernel, by decide, by decide⟩
def cK_wintering : List (Ent (Int32 × Mem)) := [(false, 0, 1, sLdI 1),
  (false, 1, 1, sC (-1)),
  (false, 2, 1, sLdA 0),
  (false, 3, 3, sGet 40 (fun w i M => aR (41, 0, 0))),
  (false, 6, 1, sC 2),
  (false, 7, 1, sIald 41 1502),
  (false, 8, 1, sC 1),
  (false, 9, 1, sBin (fun x y => x - y)),
  (false, 10, 3, sInv 3 true dK_in),
  (false, 13, 3, sIfNe 22),
  (false, 16, 1, sLdA 0),
  (false, 17, 1, sC 1),
  (false, 18, 3, sInv 2 true dK_finds),
  (false, 21, 1, sRetI),
  (false, 22, 1, sLdA 0),
  (false, 23, 3, sGet 40 (fun w i M => aR (41, 0, 0))),
  (false, 26, 1, sC 0),
  (false, 27, 1, sIald 41 1502),
  (false, 28, 1, sLdA 0),
  (false, 29, 3, sGet 40 (fun w i M => aR (41, 0, 0))),
  (false, 32, 1, sC 2),
  (false, 33, 1, sIald 41 1502),
  (false, 34, 3, sCmpGe 43),
  (false, 37, 1, sLdA 0),
  (false, 38, 1, sC 3),
  (false, 39, 3, sInv 2 true dK_finds),
  (false, 42, 1, sRetI),
  (false, 43, 1, sLdA 0),
  (false, 44, 3, sInv 1 false dK_findWinter),
  (false, 47, 1, sLdI 1),
  (false, 48, 3, sIfGe 58),
  (false, 51, 1, sLdA 0),
  (false, 52, 3, sGet 40 (fun w i M => aI (M 40 w i 15))),
  (false, 55, 3, sGoto 64),
  (false, 58, 1, sLdA 0),
  (false, 59, 3, sGet 40 (fun w i M => aR (55, 0, 0))),
  (false, 62, 1, sLdI 1),
  (false, 63, 1, sIald 55 5),
  (false, 64, 1, sRetI)]
theorem oK_wintering {E : EV} (hsd : E.2.2.2 = 1) (l : Launch) : AllOK E l 62 "FreeLancesModel" prog_13_method_93_code 2 (some .int) outI (cK_wintering) := by
  refine ak (ok_iload_n (k := 1) rfl (by decide +kernel)) ?_
  refine ak (ok_iconst (n := (-1)) (by decide) (by decide +kernel)) ?_
  refine ak (ok_aload_n (k := 0) rfl (by decide +kernel)) ?_
  refine ak (ok_get (k := 0) ck11 kd40 (by decide) (fun _ _ _ => rfl) (vf_40_0 hsd) tw1242 (by decide +kernel)) ?_
  refine ak (ok_iconst (n := 2) (by decide) (by decide +kernel)) ?_
  refine ak (ok_iald kd41 (by decide) (by decide +kernel)) ?_
  refine ak (ok_iconst (n := 1) (by decide) (by decide +kernel)) ?_
  refine ak (ok_isub (by decide +kernel)) ?_
  refine ak (ok_invS (kK_in hsd l) iK_in tw1330 (by decide) tw1329 (by decide +kernel)) ?_
  refine ak (ok_if_ne (off := 9) (by decide) (by decide +kernel)) ?_
  refine ak (ok_aload_n (k := 0) rfl (by decide +kernel)) ?_
  refine ak (ok_iconst (n := 1) (by decide) (by decide +kernel)) ?_
  refine ak (ok_invV (r := 40) (kK_finds hsd l) qK_finds ck11 kd40 iK_finds tw1334 tw37 (by decide) tw1332 (by decide +kernel)) ?_
  refine ak (ok_ireturn rfl (by decide +kernel)) ?_
  refine ak (ok_aload_n (k := 0) rfl (by decide +kernel)) ?_
  refine ak (ok_get (k := 0) ck11 kd40 (by decide) (fun _ _ _ => rfl) (vf_40_0 hsd) tw1242 (by decide +kernel)) ?_
  refine ak (ok_iconst (n := 0) (by decide) (by decide +kernel)) ?_
  refine ak (ok_iald kd41 (by decide) (by decide +kernel)) ?_
  refine ak (ok_aload_n (k := 0) rfl (by decide +kernel)) ?_
  refine ak (ok_get (k := 0) ck11 kd40 (by decide) (fun _ _ _ => rfl) (vf_40_0 hsd) tw1242 (by decide +kernel)) ?_
  refine ak (ok_iconst (n := 2) (by decide) (by decide +kernel)) ?_
  refine ak (ok_iald kd41 (by decide) (by decide +kernel)) ?_
  refine ak (ok_icmp_ge (off := 9) (by decide) (by decide +kernel)) ?_
  refine ak (ok_aload_n (k := 0) rfl (by decide +kernel)) ?_
  refine ak (ok_iconst (n := 3) (by decide) (by decide +kernel)) ?_
  refine ak (ok_invV (r := 40) (kK_finds hsd l) qK_finds ck11 kd40 iK_finds tw1334 tw37 (by decide) tw1332 (by decide +kernel)) ?_
  refine ak (ok_ireturn rfl (by decide +kernel)) ?_
  refine ak (ok_aload_n (k := 0) rfl (by decide +kernel)) ?_
  refine ak (ok_invV (r := 40) (kK_findWinter hsd l) qK_findWinter ck11 kd40 iK_findWinter tw1681 tw78 (by decide) tw1679 (by decide +kernel)) ?_
  refine ak (ok_iload_n (k := 1) rfl (by decide +kernel)) ?_
  refine ak (ok_if_ge (off := 10) (by decide) (by decide +kernel)) ?_
  refine ak (ok_aload_n (k := 0) rfl (by decide +kernel)) ?_
  refine ak (ok_get (k := 15) ck11 kd40 (by decide) (fun _ _ _ => rfl) (fun _ _ _ _ _ => trivial) tw1257 (by decide +kernel)) ?_
  refine ak (ok_goto (off := 9) (by decide) (by decide +kernel)) ?_
  refine ak (ok_aload_n (k := 0) rfl (by decide +kernel)) ?_
  refine ak (ok_get (k := 14) ck11 kd40 (by decide) (fun _ _ _ => rfl) (vf_40_14 hsd) tw1256 (by decide +kernel)) ?_
  refine ak (ok_iload_n (k := 1) rfl (by decide +kernel)) ?_
  refine ak (ok_iald kd55 (by decide) (by decide +kernel)) ?_
  refine ak (ok_ireturn rfl (by decide +kernel)) ?_
  exact trivial
set_option maxRecDepth 1000000 in
theorem eK_wintering (x1 : Int32) (M : Mem) : run (cK_wintering) (fun _ _ _ _ => none) rtI 400 (seek (cK_wintering) 0) [aR (40, 0, 0), aI x1] [] M = mK_wintering x1 M := id rfl
theorem lK_wintering {E : EV} {l : Launch} {p : Program} {e : Env} {s : State} {m : MethodId} {args : Array Value} {below : List Frame} {meth : Method} {c : Code} (A : AllOK E l 62 "FreeLancesModel" prog_13_method_93_code 2 (some .int) outI (cK_wintering)) (C : Cx E p s m args meth c "FreeLancesModel" prog_13_method_93_code 2 (some .int)) : ∀ (x1 : Int32) (M : Mem) (res : (Int32 × Mem)), mK_wintering x1 M = some res → Wm E p l e 62 s m args below meth c 2 0 [aR (40, 0, 0), aI x1] [] M (outI res).1 (outI res).2 := by
  intro x1 M res h
  refine run_at C A rfl hrtI (n := 400) ((eK_wintering x1 M).trans h) ?_
  intro t als st M hk; cases hk
def dK_wintering {β : Type} : Den β := fun as M k => match as with
  | [.inr (.inr (.inl (al0, bl0, cl0))), .inl x1] => if al0 = 40 ∧ bl0 = 0 ∧ cl0 = 0 then (mK_wintering x1 M).bind fun q => k (aI q.1) q.2 else none
  | _ => none
theorem wK_wintering {E : EV} (hsd : E.2.2.2 = 1) (l : Launch) (x1 : Int32) (M : Mem) (q : (Int32 × Mem)) (hq : mK_wintering x1 M = some q) : Con E l 62 yK_wintering prog_13_method_93_code 2 (some .int) [aR (40, 0, 0), aI x1] M (outI q).1 (outI q).2 := by
  refine con_of iK_wintering (Nat.le_of_ble_eq_true rfl) ?_
  intro p e s m args below meth c C
  exact lK_wintering (oK_wintering hsd l) C x1 M _ hq
theorem kK_wintering {E : EV} (hsd : E.2.2.2 = 1) (l : Launch) {β : Type} : DenOK E l 62 yK_wintering prog_13_method_93_code 2 (some .int) true (dK_wintering (β := β)) := by
  intro as M k res h
  unfold dK_wintering at h
  split at h
  ·
    split at h
    · rename_i hc
      obtain ⟨rfl, rfl, rfl⟩ := hc
      obtain ⟨q, hq, hk⟩ := Option.bind_eq_some_iff.mp h
      exact ⟨aI q.1, q.2, hk, rfl, wK_wintering hsd l _ M q hq⟩
    · cases h
  · cases h
theorem qK_wintering {β : Type} : RecOK 40 (dK_wintering (β := β)) := by
  intro as M k res h
  unfold dK_wintering at h
  split at h
  ·
    split at h
    · rename_i hc
      obtain ⟨rfl, rfl, rfl⟩ := hc
      exact ⟨_, _, _, rfl⟩
    · cases h
  · cases h
abbrev yK_hires : MethodName := ⟨"FreeLancesModel", "hires", "(III)V"⟩
theorem iK_hires : MI yK_hires prog_13_method_94_code 8 none 3 := ⟨tw1694, tw108, ⟨by decide, by decide⟩, by decide +kernel, by decide, by decide⟩
def dK_hires {β : Type} (rK_hires : Int32 → Int32 → Int32 → Mem → Option Mem) : Den β := fun as M k => match as with
  | [.inr (.inr (.inl (al0, bl0, cl0))), .inl x1, .inl x2, .inl x3] => if al0 = 40 ∧ bl0 = 0 ∧ cl0 = 0 then (rK_hires x1 x2 x3 M).bind fun q => k aU q else none
  | _ => none
theorem kK_hires {E : EV} {l : Launch} {D : Nat} {rK_hires : Int32 → Int32 → Int32 → Mem → Option Mem} (H : ∀ (x1 : Int32) (x2 : Int32) (x3 : Int32) (M : Mem) (q : Mem), rK_hires x1 x2 x3 M = some q → Con E l D yK_hires prog_13_method_94_code 8 none [aR (40, 0, 0), aI x1, aI x2, aI x3] M (outV q).1 (outV q).2) {β : Type} : DenOK E l D yK_hires prog_13_method_94_code 8 none false (dK_hires (β := β) rK_hires) := by
  intro as M k res h
  unfold dK_hires at h
  split at h
  ·
    split at h
    · rename_i hc
      obtain ⟨rfl, rfl, rfl⟩ := hc
      obtain ⟨q, hq, hk⟩ := Option.bind_eq_some_iff.mp h
      exact ⟨aU, q, hk, rfl, H _ _ _ M q hq⟩
    · cases h
  · cases h
theorem qK_hires {β : Type} (rK_hires : Int32 → Int32 → Int32 → Mem → Option Mem) : RecOK 40 (dK_hires (β := β) rK_hires) := by
  intro as M k res h
  unfold dK_hires at h
  split at h
  ·
    split at h
    · rename_i hc
      obtain ⟨rfl, rfl, rfl⟩ := hc
      exact ⟨_, _, _, rfl⟩
    · cases h
  · cases h
/-! ===== FreeLancesModel.hires(III)V ===== -/
def cK_hires (rK_hires : Int32 → Int32 → Int32 → Mem → Option Mem) : List (Ent Mem) := [(false, 0, 1, sLdA 0),
  (false, 1, 3, sGet 40 (fun w i M => aI (M 40 w i 20))),
  (false, 4, 3, sIfLt 16),
  (false, 7, 1, sLdI 3),
  (false, 8, 1, sLdA 0),
  (false, 9, 3, sGet 40 (fun w i M => aI (M 40 w i 20))),
  (false, 12, 3, sCmpLt 16),
  (false, 15, 1, sRetV),
  (false, 16, 1, sLdI 1),
  (false, 17, 1, sLdA 0),
  (false, 18, 3, sGet 40 (fun w i M => aR (65, 0, 0))),
  (false, 21, 1, sLdA 0),
  (false, 22, 3, sGet 40 (fun w i M => aI (M 40 w i 19))),
  (false, 25, 1, sIald 65 4),
  (false, 26, 1, sC 3),
  (false, 27, 1, sBin0 (fun x y => x / y)),
  (false, 28, 3, sCmpNe 66),
  (false, 31, 1, sLdA 0),
  (false, 32, 1, sLdI 3),
  (false, 33, 3, sPut 40 20),
  (false, 36, 1, sC 0),
  (false, 37, 2, sStI 4),
  (true, 39, 2, sLdI 4),
  (false, 41, 1, sLdI 1),
  (false, 42, 3, sCmpGe 65),
  (false, 45, 1, sLdA 0),
  (false, 46, 3, sGet 40 (fun w i M => aR (58, 0, 0))),
  (false, 49, 2, sLdI 4),
  (false, 51, 1, sLdA 0),
  (false, 52, 3, sGet 40 (fun w i M => aR (57, 0, 0))),
  (false, 55, 2, sLdI 4),
  (false, 57, 1, sIald 57 5),
  (false, 58, 1, sIast 58 5),
  (false, 59, 3, sInc 4 1),
  (false, 62, 3, sGoto 39),
  (false, 65, 1, sRetV),
  (false, 66, 2, sC 24),
  (false, 68, 1, sLdA 0),
  (false, 69, 3, sGet 40 (fun w i M => aI (M 40 w i 19))),
  (false, 72, 1, sBin (fun x y => x * y)),
  (false, 73, 1, sC 3),
  (false, 74, 1, sLdI 1),
  (false, 75, 1, sBin (fun x y => x * y)),
  (false, 76, 1, sBin (fun x y => x + y)),
  (false, 77, 2, sStI 4),
  (false, 79, 1, sC (-1)),
  (false, 80, 2, sStI 5),
  (true, 82, 2, sLdI 5),
  (false, 84, 1, sLdA 0),
  (false, 85, 3, sGet 40 (fun w i M => aR (41, 0, 0))),
  (false, 88, 1, sC 2),
  (false, 89, 1, sIald 41 1502),
  (false, 90, 3, sCmpGe 196),
  (false, 93, 2, sLdI 5),
  (false, 95, 3, sIfGe 102),
  (false, 98, 1, sC 0),
  (false, 99, 3, sGoto 109),
  (false, 102, 1, sLdA 0),
  (false, 103, 3, sGet 40 (fun w i M => aR (59, 0, 0))),
  (false, 106, 2, sLdI 5),
  (false, 108, 1, sIald 59 5),
  (false, 109, 2, sStI 6),
  (false, 111, 2, sLdI 6),
  (false, 113, 1, sLdA 0),
  (false, 114, 3, sGet 40 (fun w i M => aR (66, 0, 0))),
  (false, 117, 2, sLdI 4),
  (false, 119, 1, sIald 66 96),
  (false, 120, 3, sCmpLt 127),
  (false, 123, 1, sC 0),
  (false, 124, 3, sGoto 136),
  (false, 127, 1, sLdA 0),
  (false, 128, 3, sGet 40 (fun w i M => aR (66, 0, 0))),
  (false, 131, 2, sLdI 4),
  (false, 133, 1, sC 1),
  (false, 134, 1, sBin (fun x y => x + y)),
  (false, 135, 1, sIald 66 96),
  (true, 136, 2, sLdI 6),
  (false, 138, 1, sLdA 0),
  (false, 139, 3, sGet 40 (fun w i M => aR (66, 0, 0))),
  (false, 142, 2, sLdI 4),
  (false, 144, 1, sC 2),
  (false, 145, 1, sBin (fun x y => x + y)),
  (false, 146, 1, sIald 66 96),
  (false, 147, 1, sBin (fun x y => x * y)),
  (false, 148, 1, sBin (fun x y => x + y)),
  (false, 149, 2, sLdI 5),
  (false, 151, 3, sIfLt 160),
  (false, 154, 2, sLdI 5),
  (false, 156, 1, sLdI 2),
  (false, 157, 3, sCmpNe 164),
  (false, 160, 1, sC 0),
  (false, 161, 3, sGoto 166),
  (false, 164, 2, sC 10),
  (false, 166, 1, sBin (fun x y => x + y)),
  (false, 167, 2, sStI 7),
  (false, 169, 1, sLdA 0),
  (false, 170, 3, sGet 40 (fun w i M => aR (57, 0, 0))),
  (false, 173, 1, sLdI 1),
  (false, 174, 2, sLdI 5),
  (false, 176, 1, sIast 57 5),
  (false, 177, 1, sLdA 0),
  (false, 178, 1, sLdI 1),
  (false, 179, 1, sC 1),
  (false, 180, 1, sBin (fun x y => x + y)),
  (false, 181, 2, sLdI 5),
  (false, 183, 1, sLdI 3),
  (false, 184, 2, sLdI 7),
  (false, 186, 1, sBin (fun x y => x + y)),
  (false, 187, 3, sInv 4 false (dK_hires rK_hires)),
  (false, 190, 3, sInc 5 1),
  (false, 193, 3, sGoto 82),
  (false, 196, 1, sRetV)]
theorem oK_hires {E : EV} (hsd : E.2.2.2 = 1) (l : Launch) (D : Nat) (hD : 0 ≤ D) (rK_hires : Int32 → Int32 → Int32 → Mem → Option Mem) (hK_hires : ∀ {β : Type}, DenOK E l D yK_hires prog_13_method_94_code 8 none false (dK_hires (β := β) rK_hires)) : AllOK E l (D + 1) "FreeLancesModel" prog_13_method_94_code 8 none outV (cK_hires rK_hires) := by
  refine ak (ok_aload_n (k := 0) rfl (by decide +kernel)) ?_
  refine ak (ok_get (k := 20) ck11 kd40 (by decide) (fun _ _ _ => rfl) (fun _ _ _ _ _ => trivial) tw1262 (by decide +kernel)) ?_
  refine ak (ok_if_lt (off := 12) (by decide) (by decide +kernel)) ?_
  refine ak (ok_iload_n (k := 3) rfl (by decide +kernel)) ?_
  refine ak (ok_aload_n (k := 0) rfl (by decide +kernel)) ?_
  refine ak (ok_get (k := 20) ck11 kd40 (by decide) (fun _ _ _ => rfl) (fun _ _ _ _ _ => trivial) tw1262 (by decide +kernel)) ?_
  refine ak (ok_icmp_lt (off := 4) (by decide) (by decide +kernel)) ?_
  refine ak (ok_return rfl (by decide +kernel)) ?_
  refine ak (ok_iload_n (k := 1) rfl (by decide +kernel)) ?_
  refine ak (ok_aload_n (k := 0) rfl (by decide +kernel)) ?_
  refine ak (ok_get (k := 24) ck11 kd40 (by decide) (fun _ _ _ => rfl) (vf_40_24 hsd) tw1266 (by decide +kernel)) ?_
  refine ak (ok_aload_n (k := 0) rfl (by decide +kernel)) ?_
  refine ak (ok_get (k := 19) ck11 kd40 (by decide) (fun _ _ _ => rfl) (fun _ _ _ _ _ => trivial) tw1261 (by decide +kernel)) ?_
  refine ak (ok_iald kd65 (by decide) (by decide +kernel)) ?_
  refine ak (ok_iconst (n := 3) (by decide) (by decide +kernel)) ?_
  refine ak (ok_idiv (by decide +kernel)) ?_
  refine ak (ok_icmp_ne (off := 38) (by decide) (by decide +kernel)) ?_
  refine ak (ok_aload_n (k := 0) rfl (by decide +kernel)) ?_
  refine ak (ok_iload_n (k := 3) rfl (by decide +kernel)) ?_
  refine ak (ok_put (k := 20) ck11 kd40 (by decide) (fun _ _ _ => rfl) rfl rfl (by decide) tw1262 (by decide +kernel)) ?_
  refine ak (ok_iconst (n := 0) (by decide) (by decide +kernel)) ?_
  refine ak (ok_istore (by decide) (by decide +kernel)) ?_
  refine ak (ok_iload (by decide +kernel)) ?_
  refine ak (ok_iload_n (k := 1) rfl (by decide +kernel)) ?_
  refine ak (ok_icmp_ge (off := 23) (by decide) (by decide +kernel)) ?_
  refine ak (ok_aload_n (k := 0) rfl (by decide +kernel)) ?_
  refine ak (ok_get (k := 17) ck11 kd40 (by decide) (fun _ _ _ => rfl) (vf_40_17 hsd) tw1259 (by decide +kernel)) ?_
  refine ak (ok_iload (by decide +kernel)) ?_
  refine ak (ok_aload_n (k := 0) rfl (by decide +kernel)) ?_
  refine ak (ok_get (k := 16) ck11 kd40 (by decide) (fun _ _ _ => rfl) (vf_40_16 hsd) tw1258 (by decide +kernel)) ?_
  refine ak (ok_iload (by decide +kernel)) ?_
  refine ak (ok_iald kd57 (by decide) (by decide +kernel)) ?_
  refine ak (ok_iast kd58 (by decide) (by decide) (by decide +kernel)) ?_
  refine ak (ok_iinc (n := 1) (by decide) (by decide) (by decide +kernel)) ?_
  refine ak (ok_goto (off := (-23)) (by decide) (by decide +kernel)) ?_
  refine ak (ok_return rfl (by decide +kernel)) ?_
  refine ak (ok_bipush (n := 24) (by decide) (by decide +kernel)) ?_
  refine ak (ok_aload_n (k := 0) rfl (by decide +kernel)) ?_
  refine ak (ok_get (k := 19) ck11 kd40 (by decide) (fun _ _ _ => rfl) (fun _ _ _ _ _ => trivial) tw1261 (by decide +kernel)) ?_
  refine ak (ok_imul (by decide +kernel)) ?_
  refine ak (ok_iconst (n := 3) (by decide) (by decide +kernel)) ?_
  refine ak (ok_iload_n (k := 1) rfl (by decide +kernel)) ?_
  refine ak (ok_imul (by decide +kernel)) ?_
  refine ak (ok_iadd (by decide +kernel)) ?_
  refine ak (ok_istore (by decide) (by decide +kernel)) ?_
  refine ak (ok_iconst (n := (-1)) (by decide) (by decide +kernel)) ?_
  refine ak (ok_istore (by decide) (by decide +kernel)) ?_
  refine ak (ok_iload (by decide +kernel)) ?_
  refine ak (ok_aload_n (k := 0) rfl (by decide +kernel)) ?_
  refine ak (ok_get (k := 0) ck11 kd40 (by decide) (fun _ _ _ => rfl) (vf_40_0 hsd) tw1242 (by decide +kernel)) ?_
  refine ak (ok_iconst (n := 2) (by decide) (by decide +kernel)) ?_
  refine ak (ok_iald kd41 (by decide) (by decide +kernel)) ?_
  refine ak (ok_icmp_ge (off := 106) (by decide) (by decide +kernel)) ?_
  refine ak (ok_iload (by decide +kernel)) ?_
  refine ak (ok_if_ge (off := 7) (by decide) (by decide +kernel)) ?_
  refine ak (ok_iconst (n := 0) (by decide) (by decide +kernel)) ?_
  refine ak (ok_goto (off := 10) (by decide) (by decide +kernel)) ?_
  refine ak (ok_aload_n (k := 0) rfl (by decide +kernel)) ?_
  refine ak (ok_get (k := 18) ck11 kd40 (by decide) (fun _ _ _ => rfl) (vf_40_18 hsd) tw1260 (by decide +kernel)) ?_
  refine ak (ok_iload (by decide +kernel)) ?_
  refine ak (ok_iald kd59 (by decide) (by decide +kernel)) ?_
  refine ak (ok_istore (by decide) (by decide +kernel)) ?_
  refine ak (ok_iload (by decide +kernel)) ?_
  refine ak (ok_aload_n (k := 0) rfl (by decide +kernel)) ?_
  refine ak (ok_get (k := 25) ck11 kd40 (by decide) (fun _ _ _ => rfl) (vf_40_25 hsd) tw1267 (by decide +kernel)) ?_
  refine ak (ok_iload (by decide +kernel)) ?_
  refine ak (ok_iald kd66 (by decide) (by decide +kernel)) ?_
  refine ak (ok_icmp_lt (off := 7) (by decide) (by decide +kernel)) ?_
  refine ak (ok_iconst (n := 0) (by decide) (by decide +kernel)) ?_
  refine ak (ok_goto (off := 12) (by decide) (by decide +kernel)) ?_
  refine ak (ok_aload_n (k := 0) rfl (by decide +kernel)) ?_
  refine ak (ok_get (k := 25) ck11 kd40 (by decide) (fun _ _ _ => rfl) (vf_40_25 hsd) tw1267 (by decide +kernel)) ?_
  refine ak (ok_iload (by decide +kernel)) ?_
  refine ak (ok_iconst (n := 1) (by decide) (by decide +kernel)) ?_
  refine ak (ok_iadd (by decide +kernel)) ?_
  refine ak (ok_iald kd66 (by decide) (by decide +kernel)) ?_
  refine ak (ok_iload (by decide +kernel)) ?_
  refine ak (ok_aload_n (k := 0) rfl (by decide +kernel)) ?_
  refine ak (ok_get (k := 25) ck11 kd40 (by decide) (fun _ _ _ => rfl) (vf_40_25 hsd) tw1267 (by decide +kernel)) ?_
  refine ak (ok_iload (by decide +kernel)) ?_
  refine ak (ok_iconst (n := 2) (by decide) (by decide +kernel)) ?_
  refine ak (ok_iadd (by decide +kernel)) ?_
  refine ak (ok_iald kd66 (by decide) (by decide +kernel)) ?_
  refine ak (ok_imul (by decide +kernel)) ?_
  refine ak (ok_iadd (by decide +kernel)) ?_
  refine ak (ok_iload (by decide +kernel)) ?_
  refine ak (ok_if_lt (off := 9) (by decide) (by decide +kernel)) ?_
  refine ak (ok_iload (by decide +kernel)) ?_
  refine ak (ok_iload_n (k := 2) rfl (by decide +kernel)) ?_
  refine ak (ok_icmp_ne (off := 7) (by decide) (by decide +kernel)) ?_
  refine ak (ok_iconst (n := 0) (by decide) (by decide +kernel)) ?_
  refine ak (ok_goto (off := 5) (by decide) (by decide +kernel)) ?_
  refine ak (ok_bipush (n := 10) (by decide) (by decide +kernel)) ?_
  refine ak (ok_iadd (by decide +kernel)) ?_
  refine ak (ok_istore (by decide) (by decide +kernel)) ?_
  refine ak (ok_aload_n (k := 0) rfl (by decide +kernel)) ?_
  refine ak (ok_get (k := 16) ck11 kd40 (by decide) (fun _ _ _ => rfl) (vf_40_16 hsd) tw1258 (by decide +kernel)) ?_
  refine ak (ok_iload_n (k := 1) rfl (by decide +kernel)) ?_
  refine ak (ok_iload (by decide +kernel)) ?_
  refine ak (ok_iast kd57 (by decide) (by decide) (by decide +kernel)) ?_
  refine ak (ok_aload_n (k := 0) rfl (by decide +kernel)) ?_
  refine ak (ok_iload_n (k := 1) rfl (by decide +kernel)) ?_
  refine ak (ok_iconst (n := 1) (by decide) (by decide +kernel)) ?_
  refine ak (ok_iadd (by decide +kernel)) ?_
  refine ak (ok_iload (by decide +kernel)) ?_
  refine ak (ok_iload_n (k := 3) rfl (by decide +kernel)) ?_
  refine ak (ok_iload (by decide +kernel)) ?_
  refine ak (ok_iadd (by decide +kernel)) ?_
  refine ak (ok_invV (r := 40) hK_hires (qK_hires rK_hires) ck11 kd40 iK_hires tw1693 tw80 (by omega) tw1691 (by decide +kernel)) ?_
  refine ak (ok_iinc (n := 1) (by decide) (by decide) (by decide +kernel)) ?_
  refine ak (ok_goto (off := (-111)) (by decide) (by decide +kernel)) ?_
  refine ak (ok_return rfl (by decide +kernel)) ?_
  exact trivial
def KK_hires_136 (j82 : Int32 → Int32 → Int32 → Int32 → Int32 → Mem → Option Mem) : Jm Mem := fun t als st M =>
  if t = 82 then (match als, st with
  | [.inr (.inr (.inl (al0, bl0, cl0))), .inl x1, .inl x2, .inl x3, .inl x4, .inl x5, _, _], [] => if al0 = 40 ∧ bl0 = 0 ∧ cl0 = 0 then j82 x1 x2 x3 x4 x5 M else none
  | _, _ => none) else
  none
set_option maxRecDepth 1000000 in
theorem eK_hires_136 (rK_hires : Int32 → Int32 → Int32 → Mem → Option Mem) (j82 : Int32 → Int32 → Int32 → Int32 → Int32 → Mem → Option Mem) (x1 : Int32) (x2 : Int32) (x3 : Int32) (x4 : Int32) (x5 : Int32) (x6 : Int32) (y0 : Int32) (M : Mem) (u7 : AV) : run (cK_hires rK_hires) (KK_hires_136 j82) rtV 400 (seek (cK_hires rK_hires) 136) [aR (40, 0, 0), aI x1, aI x2, aI x3, aI x4, aI x5, aI x6, u7] [aI y0] M = mK_hires_136b rK_hires j82 x1 x2 x3 x4 x5 x6 y0 M := id rfl
theorem lK_hires_136 {E : EV} {l : Launch} {p : Program} {e : Env} {s : State} {m : MethodId} {args : Array Value} {below : List Frame} {meth : Method} {c : Code} {D : Nat} (rK_hires : Int32 → Int32 → Int32 → Mem → Option Mem) (A : AllOK E l (D + 1) "FreeLancesModel" prog_13_method_94_code 8 none outV (cK_hires rK_hires)) (C : Cx E p s m args meth c "FreeLancesModel" prog_13_method_94_code 8 none) {r82 : Int32 → Int32 → Int32 → Int32 → Int32 → Mem → Option Mem} (H82 : ∀ (x1 : Int32) (x2 : Int32) (x3 : Int32) (x4 : Int32) (x5 : Int32) (M : Mem) (res : Mem), r82 x1 x2 x3 x4 x5 M = some res → ∀ (u6 u7 : AV), Wm E p l e (D + 1) s m args below meth c 8 82 [aR (40, 0, 0), aI x1, aI x2, aI x3, aI x4, aI x5, u6, u7] [] M (outV res).1 (outV res).2) : ∀ (x1 : Int32) (x2 : Int32) (x3 : Int32) (x4 : Int32) (x5 : Int32) (x6 : Int32) (y0 : Int32) (M : Mem) (res : Mem), mK_hires_136 rK_hires r82 x1 x2 x3 x4 x5 x6 y0 M = some res → ∀ (u7 : AV), Wm E p l e (D + 1) s m args below meth c 8 136 [aR (40, 0, 0), aI x1, aI x2, aI x3, aI x4, aI x5, aI x6, u7] [aI y0] M (outV res).1 (outV res).2 := by
  intro x1 x2 x3 x4 x5 x6 y0 M res h u7
  refine run_at C A rfl hrtV (n := 400) ((eK_hires_136 rK_hires r82 x1 x2 x3 x4 x5 x6 y0 M u7).trans h) ?_
  intro t als st M hk
  unfold KK_hires_136 at hk
  split at hk
  · rename_i ht
    subst ht
    split at hk
    · split at hk
      · rename_i hc
        obtain ⟨rfl, rfl, rfl⟩ := hc
        exact H82 _ _ _ _ _ _ _ hk _ _
      · cases hk
    · cases hk
  cases hk
def KK_hires_82 (j136 : Int32 → Int32 → Int32 → Int32 → Int32 → Int32 → Int32 → Mem → Option Mem) : Jm Mem := fun t als st M =>
  if t = 136 then (match als, st with
  | [.inr (.inr (.inl (al0, bl0, cl0))), .inl x1, .inl x2, .inl x3, .inl x4, .inl x5, .inl x6, _], [.inl y0] => if al0 = 40 ∧ bl0 = 0 ∧ cl0 = 0 then j136 x1 x2 x3 x4 x5 x6 y0 M else none
  | _, _ => none) else
  none
set_option maxRecDepth 1000000 in
theorem eK_hires_82 (rK_hires : Int32 → Int32 → Int32 → Mem → Option Mem) (j136 : Int32 → Int32 → Int32 → Int32 → Int32 → Int32 → Int32 → Mem → Option Mem) (x1 : Int32) (x2 : Int32) (x3 : Int32) (x4 : Int32) (x5 : Int32) (M : Mem) (u6 u7 : AV) : run (cK_hires rK_hires) (KK_hires_82 j136) rtV 400 (seek (cK_hires rK_hires) 82) [aR (40, 0, 0), aI x1, aI x2, aI x3, aI x4, aI x5, u6, u7] [] M = mK_hires_82b rK_hires j136 x1 x2 x3 x4 x5 M := id rfl
theorem lK_hires_82 {E : EV} {l : Launch} {p : Program} {e : Env} {s : State} {m : MethodId} {args : Array Value} {below : List Frame} {meth : Method} {c : Code} {D : Nat} (rK_hires : Int32 → Int32 → Int32 → Mem → Option Mem) (A : AllOK E l (D + 1) "FreeLancesModel" prog_13_method_94_code 8 none outV (cK_hires rK_hires)) (C : Cx E p s m args meth c "FreeLancesModel" prog_13_method_94_code 8 none) : ∀ (n : Nat), ∀ (x1 : Int32) (x2 : Int32) (x3 : Int32) (x4 : Int32) (x5 : Int32) (M : Mem) (res : Mem), mK_hires_82 rK_hires n x1 x2 x3 x4 x5 M = some res → ∀ (u6 u7 : AV), Wm E p l e (D + 1) s m args below meth c 8 82 [aR (40, 0, 0), aI x1, aI x2, aI x3, aI x4, aI x5, u6, u7] [] M (outV res).1 (outV res).2 := by
  intro n
  induction n with
  | zero => intro _ _ _ _ _ M res h; cases h
  | succ n ih =>
    intro x1 x2 x3 x4 x5 M res h u6 u7
    refine run_at C A rfl hrtV (n := 400) ((eK_hires_82 rK_hires (mK_hires_136 rK_hires (mK_hires_82 rK_hires n)) x1 x2 x3 x4 x5 M u6 u7).trans h) ?_
    intro t als st M hk
    unfold KK_hires_82 at hk
    split at hk
    · rename_i ht
      subst ht
      split at hk
      · split at hk
        · rename_i hc
          obtain ⟨rfl, rfl, rfl⟩ := hc
          exact lK_hires_136 _ A C ih _ _ _ _ _ _ _ _ _ hk _
        · cases hk
      · cases hk
    cases hk
def KK_hires_39 (j39 : Int32 → Int32 → Mem → Option Mem) : Jm Mem := fun t als st M =>
  if t = 39 then (match als, st with
  | [.inr (.inr (.inl (al0, bl0, cl0))), .inl x1, _, _, .inl x4, _, _, _], [] => if al0 = 40 ∧ bl0 = 0 ∧ cl0 = 0 then j39 x1 x4 M else none
  | _, _ => none) else
  none
set_option maxRecDepth 1000000 in
theorem eK_hires_39 (rK_hires : Int32 → Int32 → Int32 → Mem → Option Mem) (j39 : Int32 → Int32 → Mem → Option Mem) (x1 : Int32) (x4 : Int32) (M : Mem) (u2 u3 u5 u6 u7 : AV) : run (cK_hires rK_hires) (KK_hires_39 j39) rtV 400 (seek (cK_hires rK_hires) 39) [aR (40, 0, 0), aI x1, u2, u3, aI x4, u5, u6, u7] [] M = mK_hires_39b rK_hires j39 x1 x4 M := id rfl
theorem lK_hires_39 {E : EV} {l : Launch} {p : Program} {e : Env} {s : State} {m : MethodId} {args : Array Value} {below : List Frame} {meth : Method} {c : Code} {D : Nat} (rK_hires : Int32 → Int32 → Int32 → Mem → Option Mem) (A : AllOK E l (D + 1) "FreeLancesModel" prog_13_method_94_code 8 none outV (cK_hires rK_hires)) (C : Cx E p s m args meth c "FreeLancesModel" prog_13_method_94_code 8 none) : ∀ (n : Nat), ∀ (x1 : Int32) (x4 : Int32) (M : Mem) (res : Mem), mK_hires_39 rK_hires n x1 x4 M = some res → ∀ (u2 u3 u5 u6 u7 : AV), Wm E p l e (D + 1) s m args below meth c 8 39 [aR (40, 0, 0), aI x1, u2, u3, aI x4, u5, u6, u7] [] M (outV res).1 (outV res).2 := by
  intro n
  induction n with
  | zero => intro _ _ M res h; cases h
  | succ n ih =>
    intro x1 x4 M res h u2 u3 u5 u6 u7
    refine run_at C A rfl hrtV (n := 400) ((eK_hires_39 rK_hires (mK_hires_39 rK_hires n) x1 x4 M u2 u3 u5 u6 u7).trans h) ?_
    intro t als st M hk
    unfold KK_hires_39 at hk
    split at hk
    · rename_i ht
      subst ht
      split at hk
      · split at hk
        · rename_i hc
          obtain ⟨rfl, rfl, rfl⟩ := hc
          exact ih _ _ _ _ hk _ _ _ _ _
        · cases hk
      · cases hk
    cases hk
def KK_hires (j39 : Int32 → Int32 → Mem → Option Mem) (j82 : Int32 → Int32 → Int32 → Int32 → Int32 → Mem → Option Mem) : Jm Mem := fun t als st M =>
  if t = 39 then (match als, st with
  | [.inr (.inr (.inl (al0, bl0, cl0))), .inl x1, _, _, .inl x4, _, _, _], [] => if al0 = 40 ∧ bl0 = 0 ∧ cl0 = 0 then j39 x1 x4 M else none
  | _, _ => none) else
  if t = 82 then (match als, st with
  | [.inr (.inr (.inl (al0, bl0, cl0))), .inl x1, .inl x2, .inl x3, .inl x4, .inl x5, _, _], [] => if al0 = 40 ∧ bl0 = 0 ∧ cl0 = 0 then j82 x1 x2 x3 x4 x5 M else none
  | _, _ => none) else
  none
set_option maxRecDepth 1000000 in
theorem eK_hires (rK_hires : Int32 → Int32 → Int32 → Mem → Option Mem) (j39 : Int32 → Int32 → Mem → Option Mem) (j82 : Int32 → Int32 → Int32 → Int32 → Int32 → Mem → Option Mem) (x1 : Int32) (x2 : Int32) (x3 : Int32) (M : Mem) : run (cK_hires rK_hires) (KK_hires j39 j82) rtV 400 (seek (cK_hires rK_hires) 0) [aR (40, 0, 0), aI x1, aI x2, aI x3, aU, aU, aU, aU] [] M = mK_hiresb rK_hires j39 j82 x1 x2 x3 M := id rfl
theorem lK_hires {E : EV} {l : Launch} {p : Program} {e : Env} {s : State} {m : MethodId} {args : Array Value} {below : List Frame} {meth : Method} {c : Code} {D : Nat} (rK_hires : Int32 → Int32 → Int32 → Mem → Option Mem) (A : AllOK E l (D + 1) "FreeLancesModel" prog_13_method_94_code 8 none outV (cK_hires rK_hires)) (C : Cx E p s m args meth c "FreeLancesModel" prog_13_method_94_code 8 none) : ∀ (x1 : Int32) (x2 : Int32) (x3 : Int32) (M : Mem) (res : Mem), mK_hires rK_hires x1 x2 x3 M = some res → Wm E p l e (D + 1) s m args below meth c 8 0 [aR (40, 0, 0), aI x1, aI x2, aI x3, aU, aU, aU, aU] [] M (outV res).1 (outV res).2 := by
  intro x1 x2 x3 M res h
  refine run_at C A rfl hrtV (n := 400) ((eK_hires rK_hires (mK_hires_39 rK_hires fuel) (mK_hires_82 rK_hires fuel) x1 x2 x3 M).trans h) ?_
  intro t als st M hk
  unfold KK_hires at hk
  split at hk
  · rename_i ht
    subst ht
    split at hk
    · split at hk
      · rename_i hc
        obtain ⟨rfl, rfl, rfl⟩ := hc
        exact lK_hires_39 _ A C _ _ _ _ _ hk _ _ _ _ _
      · cases hk
    · cases hk
  split at hk
  · rename_i ht
    subst ht
    split at hk
    · split at hk
      · rename_i hc
        obtain ⟨rfl, rfl, rfl⟩ := hc
        exact lK_hires_82 _ A C _ _ _ _ _ _ _ _ hk _ _
      · cases hk
    · cases hk
  cases hk
theorem wK_hires {E : EV} (hsd : E.2.2.2 = 1) (l : Launch) (D : Nat) (hD : 0 ≤ D) (rK_hires : Int32 → Int32 → Int32 → Mem → Option Mem) (hK_hires : ∀ {β : Type}, DenOK E l D yK_hires prog_13_method_94_code 8 none false (dK_hires (β := β) rK_hires)) (x1 : Int32) (x2 : Int32) (x3 : Int32) (M : Mem) (q : Mem) (hq : mK_hires rK_hires x1 x2 x3 M = some q) : Con E l (D + 1) yK_hires prog_13_method_94_code 8 none [aR (40, 0, 0), aI x1, aI x2, aI x3] M (outV q).1 (outV q).2 := by
  refine con_of iK_hires (Nat.le_of_ble_eq_true rfl) ?_
  intro p e s m args below meth c C
  exact lK_hires rK_hires (oK_hires hsd l D hD rK_hires hK_hires) C x1 x2 x3 M _ hq
theorem g4_con {E : EV} (hsd : E.2.2.2 = 1) (l : Launch) : ∀ n : Nat, (∀ (x1 : Int32) (x2 : Int32) (x3 : Int32) (M : Mem) (q : Mem), g4 n 0 x1 x2 x3 M = some q → Con E l (0 + n) yK_hires prog_13_method_94_code 8 none [aR (40, 0, 0), aI x1, aI x2, aI x3] M (outV q).1 (outV q).2) := by
  intro n
  induction n with
  | zero => exact (fun _ _ _ _ _ h => by cases h)
  | succ n ih =>
    have ih0 := ih
    exact (fun x1 x2 x3 M q h => wK_hires hsd l (0 + n) (by omega) _ (kK_hires ih0) x1 x2 x3 M q h)
theorem kxK_hires {E : EV} (hsd : E.2.2.2 = 1) (l : Launch) {β : Type} : DenOK E l 60 yK_hires prog_13_method_94_code 8 none false (dK_hires (β := β) xK_hires) := kK_hires (fun x1 x2 x3 M q h => (g4_con hsd l 60) x1 x2 x3 M q h)
