/-! ===== FreeLancesModel.judge()I ===== -/
abbrev yK_judge : MethodName := ⟨"FreeLancesModel", "judge", "()I"⟩
theorem iK_judge : MI yK_judge prog_13_method_122_code 7 (some .int) 0 := ⟨tw1798, tw108, ⟨by decide, by decide⟩, by decide +kernel, by decide, by decide⟩
def cK_judge : List (Ent (Int32 × Mem)) := [(false, 0, 1, sLdA 0),
  (false, 1, 3, sGet 40 (fun w i M => aR (41, 0, 0))),
  (false, 4, 2, sC 8),
  (false, 6, 1, sIald 41 1502),
  (false, 7, 1, sStI 1),
  (false, 8, 1, sLdA 0),
  (false, 9, 3, sGet 40 (fun w i M => aR (41, 0, 0))),
  (false, 12, 2, sC 8),
  (false, 14, 1, sC 0),
  (false, 15, 1, sIast 41 1502),
  (false, 16, 1, sLdA 0),
  (false, 17, 3, sGet 40 (fun w i M => aR (41, 0, 0))),
  (false, 20, 1, sC 2),
  (false, 21, 1, sIald 41 1502),
  (false, 22, 1, sStI 2),
  (false, 23, 1, sLdA 0),
  (false, 24, 3, sGet 40 (fun w i M => aR (41, 0, 0))),
  (false, 27, 1, sC 0),
  (false, 28, 1, sIald 41 1502),
  (false, 29, 1, sLdI 2),
  (false, 30, 3, sCmpGe 39),
  (false, 33, 1, sLdA 0),
  (false, 34, 1, sC 3),
  (false, 35, 3, sInv 2 true dK_finds),
  (false, 38, 1, sRetI),
  (false, 39, 1, sLdI 1),
  (false, 40, 1, sLdI 2),
  (false, 41, 1, sLdA 0),
  (false, 42, 3, sGet 40 (fun w i M => aR (41, 0, 0))),
  (false, 45, 1, sC 0),
  (false, 46, 1, sIald 41 1502),
  (false, 47, 1, sBin (fun x y => x + y)),
  (false, 48, 3, sCmpEq 53),
  (false, 51, 1, sC 1),
  (false, 52, 1, sRetI),
  (false, 53, 1, sCL 0),
  (false, 54, 1, sStL 3),
  (false, 55, 1, sC 0),
  (false, 56, 2, sStI 5),
  (true, 58, 2, sLdI 5),
  (false, 60, 1, sLdI 1),
  (false, 61, 3, sCmpGe 107),
  (false, 64, 2, sLdI 5),
  (false, 66, 1, sLdI 2),
  (false, 67, 3, sCmpLt 86),
  (false, 70, 1, sLdA 0),
  (false, 71, 3, sGet 40 (fun w i M => aR (41, 0, 0))),
  (false, 74, 3, sC 1482),
  (false, 77, 2, sLdI 5),
  (false, 79, 1, sBin (fun x y => x + y)),
  (false, 80, 1, sIald 41 1502),
  (false, 81, 3, sIfLe 86),
  (false, 84, 1, sC 2),
  (false, 85, 1, sRetI),
  (false, 86, 1, sLdL 3),
  (false, 87, 1, sLdA 0),
  (false, 88, 3, sGet 40 (fun w i M => aR (41, 0, 0))),
  (false, 91, 3, sC 1482),
  (false, 94, 2, sLdI 5),
  (false, 96, 1, sBin (fun x y => x + y)),
  (false, 97, 1, sIald 41 1502),
  (false, 98, 1, sI2L),
  (false, 99, 1, sBinL (fun x y => x + y)),
  (false, 100, 1, sStL 3),
  (false, 101, 3, sInc 5 1),
  (false, 104, 3, sGoto 58),
  (false, 107, 1, sC 0),
  (false, 108, 2, sStI 5),
  (true, 110, 2, sLdI 5),
  (false, 112, 1, sLdI 2),
  (false, 113, 3, sCmpGe 193),
  (false, 116, 1, sC 0),
  (false, 117, 2, sStI 6),
  (true, 119, 2, sLdI 6),
  (false, 121, 1, sLdA 0),
  (false, 122, 3, sGet 40 (fun w i M => aR (41, 0, 0))),
  (false, 125, 1, sC 0),
  (false, 126, 1, sIald 41 1502),
  (false, 127, 3, sCmpGe 187),
  (false, 130, 1, sLdA 0),
  (false, 131, 3, sGet 40 (fun w i M => aR (41, 0, 0))),
  (false, 134, 3, sC 1482),
  (false, 137, 2, sLdI 5),
  (false, 139, 1, sBin (fun x y => x + y)),
  (false, 140, 1, sIald 41 1502),
  (false, 141, 1, sI2L),
  (false, 142, 1, sLdA 0),
  (false, 143, 3, sGet 40 (fun w i M => aR (41, 0, 0))),
  (false, 146, 3, sC 1482),
  (false, 149, 1, sLdI 2),
  (false, 150, 1, sBin (fun x y => x + y)),
  (false, 151, 2, sLdI 6),
  (false, 153, 1, sBin (fun x y => x + y)),
  (false, 154, 1, sIald 41 1502),
  (false, 155, 1, sI2L),
  (false, 156, 1, sBinL (fun x y => x + y)),
  (false, 157, 1, sLdA 0),
  (false, 158, 3, sGet 40 (fun w i M => aR (41, 0, 0))),
  (false, 161, 3, sC 1392),
  (false, 164, 2, sC 8),
  (false, 166, 2, sLdI 5),
  (false, 168, 1, sBin (fun x y => x * y)),
  (false, 169, 1, sBin (fun x y => x + y)),
  (false, 170, 2, sLdI 6),
  (false, 172, 1, sBin (fun x y => x + y)),
  (false, 173, 1, sIald 41 1502),
  (false, 174, 1, sI2L),
  (false, 175, 1, sLcmp),
  (false, 176, 3, sIfLe 181),
  (false, 179, 1, sC 3),
  (false, 180, 1, sRetI),
  (false, 181, 3, sInc 6 1),
  (false, 184, 3, sGoto 119),
  (false, 187, 3, sInc 5 1),
  (false, 190, 3, sGoto 110),
  (false, 193, 1, sLdA 0),
  (false, 194, 3, sInv 1 false dK_findWinter),
  (false, 197, 1, sLdL 3),
  (false, 198, 1, sLdA 0),
  (false, 199, 3, sGet 40 (fun w i M => aI (M 40 w i 15))),
  (false, 202, 1, sI2L),
  (false, 203, 1, sLcmp),
  (false, 204, 3, sIfNe 211),
  (false, 207, 1, sC 0),
  (false, 208, 3, sGoto 212),
  (false, 211, 1, sC 4),
  (false, 212, 1, sRetI)]
theorem oK_judge {E : EV} (hsd : E.2.2.2 = 1) (l : Launch) : AllOK E l 62 "FreeLancesModel" prog_13_method_122_code 7 (some .int) outI (cK_judge) := by
  refine ak (ok_aload_n (k := 0) rfl (by decide +kernel)) ?_
  refine ak (ok_get (k := 0) ck11 kd40 (by decide) (fun _ _ _ => rfl) (vf_40_0 hsd) tw1242 (by decide +kernel)) ?_
  refine ak (ok_bipush (n := 8) (by decide) (by decide +kernel)) ?_
  refine ak (ok_iald kd41 (by decide) (by decide +kernel)) ?_
  refine ak (ok_istore_n (k := 1) rfl (by decide) (by decide +kernel)) ?_
  refine ak (ok_aload_n (k := 0) rfl (by decide +kernel)) ?_
  refine ak (ok_get (k := 0) ck11 kd40 (by decide) (fun _ _ _ => rfl) (vf_40_0 hsd) tw1242 (by decide +kernel)) ?_
  refine ak (ok_bipush (n := 8) (by decide) (by decide +kernel)) ?_
  refine ak (ok_iconst (n := 0) (by decide) (by decide +kernel)) ?_
  refine ak (ok_iast kd41 (by decide) (by decide) (by decide +kernel)) ?_
  refine ak (ok_aload_n (k := 0) rfl (by decide +kernel)) ?_
  refine ak (ok_get (k := 0) ck11 kd40 (by decide) (fun _ _ _ => rfl) (vf_40_0 hsd) tw1242 (by decide +kernel)) ?_
  refine ak (ok_iconst (n := 2) (by decide) (by decide +kernel)) ?_
  refine ak (ok_iald kd41 (by decide) (by decide +kernel)) ?_
  refine ak (ok_istore_n (k := 2) rfl (by decide) (by decide +kernel)) ?_
  refine ak (ok_aload_n (k := 0) rfl (by decide +kernel)) ?_
  refine ak (ok_get (k := 0) ck11 kd40 (by decide) (fun _ _ _ => rfl) (vf_40_0 hsd) tw1242 (by decide +kernel)) ?_
  refine ak (ok_iconst (n := 0) (by decide) (by decide +kernel)) ?_
  refine ak (ok_iald kd41 (by decide) (by decide +kernel)) ?_
  refine ak (ok_iload_n (k := 2) rfl (by decide +kernel)) ?_
  refine ak (ok_icmp_ge (off := 9) (by decide) (by decide +kernel)) ?_
  refine ak (ok_aload_n (k := 0) rfl (by decide +kernel)) ?_
  refine ak (ok_iconst (n := 3) (by decide) (by decide +kernel)) ?_
  refine ak (ok_invV (r := 40) (kK_finds hsd l) qK_finds ck11 kd40 iK_finds tw1334 tw37 (by decide) tw1332 (by decide +kernel)) ?_
  refine ak (ok_ireturn rfl (by decide +kernel)) ?_
  refine ak (ok_iload_n (k := 1) rfl (by decide +kernel)) ?_
  refine ak (ok_iload_n (k := 2) rfl (by decide +kernel)) ?_
  refine ak (ok_aload_n (k := 0) rfl (by decide +kernel)) ?_
  refine ak (ok_get (k := 0) ck11 kd40 (by decide) (fun _ _ _ => rfl) (vf_40_0 hsd) tw1242 (by decide +kernel)) ?_
  refine ak (ok_iconst (n := 0) (by decide) (by decide +kernel)) ?_
  refine ak (ok_iald kd41 (by decide) (by decide +kernel)) ?_
  refine ak (ok_iadd (by decide +kernel)) ?_
  refine ak (ok_icmp_eq (off := 5) (by decide) (by decide +kernel)) ?_
  refine ak (ok_iconst (n := 1) (by decide) (by decide +kernel)) ?_
  refine ak (ok_ireturn rfl (by decide +kernel)) ?_
  refine ak (ok_lconst (n := 0) (by decide) (by decide +kernel)) ?_
  refine ak (ok_lstore_n (k := 3) rfl (by decide) (by decide +kernel)) ?_
  refine ak (ok_iconst (n := 0) (by decide) (by decide +kernel)) ?_
  refine ak (ok_istore (by decide) (by decide +kernel)) ?_
  refine ak (ok_iload (by decide +kernel)) ?_
  refine ak (ok_iload_n (k := 1) rfl (by decide +kernel)) ?_
  refine ak (ok_icmp_ge (off := 46) (by decide) (by decide +kernel)) ?_
  refine ak (ok_iload (by decide +kernel)) ?_
  refine ak (ok_iload_n (k := 2) rfl (by decide +kernel)) ?_
  refine ak (ok_icmp_lt (off := 19) (by decide) (by decide +kernel)) ?_
  refine ak (ok_aload_n (k := 0) rfl (by decide +kernel)) ?_
  refine ak (ok_get (k := 0) ck11 kd40 (by decide) (fun _ _ _ => rfl) (vf_40_0 hsd) tw1242 (by decide +kernel)) ?_
  refine ak (ok_sipush (n := 1482) (by decide) (by decide +kernel)) ?_
  refine ak (ok_iload (by decide +kernel)) ?_
  refine ak (ok_iadd (by decide +kernel)) ?_
  refine ak (ok_iald kd41 (by decide) (by decide +kernel)) ?_
  refine ak (ok_if_le (off := 5) (by decide) (by decide +kernel)) ?_
  refine ak (ok_iconst (n := 2) (by decide) (by decide +kernel)) ?_
  refine ak (ok_ireturn rfl (by decide +kernel)) ?_
  refine ak (ok_lload_n (k := 3) rfl (by decide +kernel)) ?_
  refine ak (ok_aload_n (k := 0) rfl (by decide +kernel)) ?_
  refine ak (ok_get (k := 0) ck11 kd40 (by decide) (fun _ _ _ => rfl) (vf_40_0 hsd) tw1242 (by decide +kernel)) ?_
  refine ak (ok_sipush (n := 1482) (by decide) (by decide +kernel)) ?_
  refine ak (ok_iload (by decide +kernel)) ?_
  refine ak (ok_iadd (by decide +kernel)) ?_
  refine ak (ok_iald kd41 (by decide) (by decide +kernel)) ?_
  refine ak (ok_i2l (by decide +kernel)) ?_
  refine ak (ok_ladd (by decide +kernel)) ?_
  refine ak (ok_lstore_n (k := 3) rfl (by decide) (by decide +kernel)) ?_
  refine ak (ok_iinc (n := 1) (by decide) (by decide) (by decide +kernel)) ?_
  refine ak (ok_goto (off := (-46)) (by decide) (by decide +kernel)) ?_
  refine ak (ok_iconst (n := 0) (by decide) (by decide +kernel)) ?_
  refine ak (ok_istore (by decide) (by decide +kernel)) ?_
  refine ak (ok_iload (by decide +kernel)) ?_
  refine ak (ok_iload_n (k := 2) rfl (by decide +kernel)) ?_
  refine ak (ok_icmp_ge (off := 80) (by decide) (by decide +kernel)) ?_
  refine ak (ok_iconst (n := 0) (by decide) (by decide +kernel)) ?_
  refine ak (ok_istore (by decide) (by decide +kernel)) ?_
  refine ak (ok_iload (by decide +kernel)) ?_
  refine ak (ok_aload_n (k := 0) rfl (by decide +kernel)) ?_
  refine ak (ok_get (k := 0) ck11 kd40 (by decide) (fun _ _ _ => rfl) (vf_40_0 hsd) tw1242 (by decide +kernel)) ?_
  refine ak (ok_iconst (n := 0) (by decide) (by decide +kernel)) ?_
  refine ak (ok_iald kd41 (by decide) (by decide +kernel)) ?_
  refine ak (ok_icmp_ge (off := 60) (by decide) (by decide +kernel)) ?_
  refine ak (ok_aload_n (k := 0) rfl (by decide +kernel)) ?_
  refine ak (ok_get (k := 0) ck11 kd40 (by decide) (fun _ _ _ => rfl) (vf_40_0 hsd) tw1242 (by decide +kernel)) ?_
  refine ak (ok_sipush (n := 1482) (by decide) (by decide +kernel)) ?_
  refine ak (ok_iload (by decide +kernel)) ?_
  refine ak (ok_iadd (by decide +kernel)) ?_
  refine ak (ok_iald kd41 (by decide) (by decide +kernel)) ?_
  refine ak (ok_i2l (by decide +kernel)) ?_
  refine ak (ok_aload_n (k := 0) rfl (by decide +kernel)) ?_
  refine ak (ok_get (k := 0) ck11 kd40 (by decide) (fun _ _ _ => rfl) (vf_40_0 hsd) tw1242 (by decide +kernel)) ?_
  refine ak (ok_sipush (n := 1482) (by decide) (by decide +kernel)) ?_
  refine ak (ok_iload_n (k := 2) rfl (by decide +kernel)) ?_
  refine ak (ok_iadd (by decide +kernel)) ?_
  refine ak (ok_iload (by decide +kernel)) ?_
  refine ak (ok_iadd (by decide +kernel)) ?_
  refine ak (ok_iald kd41 (by decide) (by decide +kernel)) ?_
  refine ak (ok_i2l (by decide +kernel)) ?_
  refine ak (ok_ladd (by decide +kernel)) ?_
  refine ak (ok_aload_n (k := 0) rfl (by decide +kernel)) ?_
  refine ak (ok_get (k := 0) ck11 kd40 (by decide) (fun _ _ _ => rfl) (vf_40_0 hsd) tw1242 (by decide +kernel)) ?_
  refine ak (ok_sipush (n := 1392) (by decide) (by decide +kernel)) ?_
  refine ak (ok_bipush (n := 8) (by decide) (by decide +kernel)) ?_
  refine ak (ok_iload (by decide +kernel)) ?_
  refine ak (ok_imul (by decide +kernel)) ?_
  refine ak (ok_iadd (by decide +kernel)) ?_
  refine ak (ok_iload (by decide +kernel)) ?_
  refine ak (ok_iadd (by decide +kernel)) ?_
  refine ak (ok_iald kd41 (by decide) (by decide +kernel)) ?_
  refine ak (ok_i2l (by decide +kernel)) ?_
  refine ak (ok_lcmp (by decide +kernel)) ?_
  refine ak (ok_if_le (off := 5) (by decide) (by decide +kernel)) ?_
  refine ak (ok_iconst (n := 3) (by decide) (by decide +kernel)) ?_
  refine ak (ok_ireturn rfl (by decide +kernel)) ?_
  refine ak (ok_iinc (n := 1) (by decide) (by decide) (by decide +kernel)) ?_
  refine ak (ok_goto (off := (-65)) (by decide) (by decide +kernel)) ?_
  refine ak (ok_iinc (n := 1) (by decide) (by decide) (by decide +kernel)) ?_
  refine ak (ok_goto (off := (-80)) (by decide) (by decide +kernel)) ?_
  refine ak (ok_aload_n (k := 0) rfl (by decide +kernel)) ?_
  refine ak (ok_invV (r := 40) (kK_findWinter hsd l) qK_findWinter ck11 kd40 iK_findWinter tw1681 tw78 (by decide) tw1679 (by decide +kernel)) ?_
  refine ak (ok_lload_n (k := 3) rfl (by decide +kernel)) ?_
  refine ak (ok_aload_n (k := 0) rfl (by decide +kernel)) ?_
  refine ak (ok_get (k := 15) ck11 kd40 (by decide) (fun _ _ _ => rfl) (fun _ _ _ _ _ => trivial) tw1257 (by decide +kernel)) ?_
  refine ak (ok_i2l (by decide +kernel)) ?_
  refine ak (ok_lcmp (by decide +kernel)) ?_
  refine ak (ok_if_ne (off := 7) (by decide) (by decide +kernel)) ?_
  refine ak (ok_iconst (n := 0) (by decide) (by decide +kernel)) ?_
  refine ak (ok_goto (off := 4) (by decide) (by decide +kernel)) ?_
  refine ak (ok_iconst (n := 4) (by decide) (by decide +kernel)) ?_
  refine ak (ok_ireturn rfl (by decide +kernel)) ?_
  exact trivial
def KK_judge_119 (j110 : Int32 → Int64 → Int32 → Mem → Option (Int32 × Mem)) (j119 : Int32 → Int64 → Int32 → Int32 → Mem → Option (Int32 × Mem)) : Jm (Int32 × Mem) := fun t als st M =>
  if t = 110 then (match als, st with
  | [.inr (.inr (.inl (al0, bl0, cl0))), _, .inl x2, .inr (.inl x3), _, .inl x5, _], [] => if al0 = 40 ∧ bl0 = 0 ∧ cl0 = 0 then j110 x2 x3 x5 M else none
  | _, _ => none) else
  if t = 119 then (match als, st with
  | [.inr (.inr (.inl (al0, bl0, cl0))), _, .inl x2, .inr (.inl x3), _, .inl x5, .inl x6], [] => if al0 = 40 ∧ bl0 = 0 ∧ cl0 = 0 then j119 x2 x3 x5 x6 M else none
  | _, _ => none) else
  none
set_option maxRecDepth 1000000 in
theorem eK_judge_119 (j110 : Int32 → Int64 → Int32 → Mem → Option (Int32 × Mem)) (j119 : Int32 → Int64 → Int32 → Int32 → Mem → Option (Int32 × Mem)) (x2 : Int32) (x3 : Int64) (x5 : Int32) (x6 : Int32) (M : Mem) (u1 u4 : AV) : run (cK_judge) (KK_judge_119 j110 j119) rtI 400 (seek (cK_judge) 119) [aR (40, 0, 0), u1, aI x2, aL x3, u4, aI x5, aI x6] [] M = mK_judge_119b j110 j119 x2 x3 x5 x6 M := id rfl
theorem lK_judge_119 {E : EV} {l : Launch} {p : Program} {e : Env} {s : State} {m : MethodId} {args : Array Value} {below : List Frame} {meth : Method} {c : Code} (A : AllOK E l 62 "FreeLancesModel" prog_13_method_122_code 7 (some .int) outI (cK_judge)) (C : Cx E p s m args meth c "FreeLancesModel" prog_13_method_122_code 7 (some .int)) {r110 : Int32 → Int64 → Int32 → Mem → Option (Int32 × Mem)} (H110 : ∀ (x2 : Int32) (x3 : Int64) (x5 : Int32) (M : Mem) (res : (Int32 × Mem)), r110 x2 x3 x5 M = some res → ∀ (u1 u4 u6 : AV), Wm E p l e 62 s m args below meth c 7 110 [aR (40, 0, 0), u1, aI x2, aL x3, u4, aI x5, u6] [] M (outI res).1 (outI res).2) : ∀ (n : Nat), ∀ (x2 : Int32) (x3 : Int64) (x5 : Int32) (x6 : Int32) (M : Mem) (res : (Int32 × Mem)), mK_judge_119 r110 n x2 x3 x5 x6 M = some res → ∀ (u1 u4 : AV), Wm E p l e 62 s m args below meth c 7 119 [aR (40, 0, 0), u1, aI x2, aL x3, u4, aI x5, aI x6] [] M (outI res).1 (outI res).2 := by
  intro n
  induction n with
  | zero => intro _ _ _ _ M res h; cases h
  | succ n ih =>
    intro x2 x3 x5 x6 M res h u1 u4
    refine run_at C A rfl hrtI (n := 400) ((eK_judge_119 r110 (mK_judge_119 r110 n) x2 x3 x5 x6 M u1 u4).trans h) ?_
    intro t als st M hk
    unfold KK_judge_119 at hk
    split at hk
    · rename_i ht
      subst ht
      split at hk
      · split at hk
        · rename_i hc
          obtain ⟨rfl, rfl, rfl⟩ := hc
          exact H110 _ _ _ _ _ hk _ _ _
        · cases hk
      · cases hk
    split at hk
    · rename_i ht
      subst ht
      split at hk
      · split at hk
        · rename_i hc
          obtain ⟨rfl, rfl, rfl⟩ := hc
          exact ih _ _ _ _ _ _ hk _ _
        · cases hk
      · cases hk
    cases hk
def KK_judge_110 (j119 : Int32 → Int64 → Int32 → Int32 → Mem → Option (Int32 × Mem)) : Jm (Int32 × Mem) := fun t als st M =>
  if t = 119 then (match als, st with
  | [.inr (.inr (.inl (al0, bl0, cl0))), _, .inl x2, .inr (.inl x3), _, .inl x5, .inl x6], [] => if al0 = 40 ∧ bl0 = 0 ∧ cl0 = 0 then j119 x2 x3 x5 x6 M else none
  | _, _ => none) else
  none
set_option maxRecDepth 1000000 in
theorem eK_judge_110 (j119 : Int32 → Int64 → Int32 → Int32 → Mem → Option (Int32 × Mem)) (x2 : Int32) (x3 : Int64) (x5 : Int32) (M : Mem) (u1 u4 u6 : AV) : run (cK_judge) (KK_judge_110 j119) rtI 400 (seek (cK_judge) 110) [aR (40, 0, 0), u1, aI x2, aL x3, u4, aI x5, u6] [] M = mK_judge_110b j119 x2 x3 x5 M := id rfl
theorem lK_judge_110 {E : EV} {l : Launch} {p : Program} {e : Env} {s : State} {m : MethodId} {args : Array Value} {below : List Frame} {meth : Method} {c : Code} (A : AllOK E l 62 "FreeLancesModel" prog_13_method_122_code 7 (some .int) outI (cK_judge)) (C : Cx E p s m args meth c "FreeLancesModel" prog_13_method_122_code 7 (some .int)) : ∀ (n : Nat), ∀ (x2 : Int32) (x3 : Int64) (x5 : Int32) (M : Mem) (res : (Int32 × Mem)), mK_judge_110 n x2 x3 x5 M = some res → ∀ (u1 u4 u6 : AV), Wm E p l e 62 s m args below meth c 7 110 [aR (40, 0, 0), u1, aI x2, aL x3, u4, aI x5, u6] [] M (outI res).1 (outI res).2 := by
  intro n
  induction n with
  | zero => intro _ _ _ M res h; cases h
  | succ n ih =>
    intro x2 x3 x5 M res h u1 u4 u6
    refine run_at C A rfl hrtI (n := 400) ((eK_judge_110 (mK_judge_119 (mK_judge_110 n) fuel) x2 x3 x5 M u1 u4 u6).trans h) ?_
    intro t als st M hk
    unfold KK_judge_110 at hk
    split at hk
    · rename_i ht
      subst ht
      split at hk
      · split at hk
        · rename_i hc
          obtain ⟨rfl, rfl, rfl⟩ := hc
          exact lK_judge_119 A C ih _ _ _ _ _ _ _ hk _ _
        · cases hk
      · cases hk
    cases hk
def KK_judge_58 (j58 : Int32 → Int32 → Int64 → Int32 → Mem → Option (Int32 × Mem)) (j110 : Int32 → Int64 → Int32 → Mem → Option (Int32 × Mem)) : Jm (Int32 × Mem) := fun t als st M =>
  if t = 58 then (match als, st with
  | [.inr (.inr (.inl (al0, bl0, cl0))), .inl x1, .inl x2, .inr (.inl x3), _, .inl x5, _], [] => if al0 = 40 ∧ bl0 = 0 ∧ cl0 = 0 then j58 x1 x2 x3 x5 M else none
  | _, _ => none) else
  if t = 110 then (match als, st with
  | [.inr (.inr (.inl (al0, bl0, cl0))), _, .inl x2, .inr (.inl x3), _, .inl x5, _], [] => if al0 = 40 ∧ bl0 = 0 ∧ cl0 = 0 then j110 x2 x3 x5 M else none
  | _, _ => none) else
  none
set_option maxRecDepth 1000000 in
theorem eK_judge_58 (j58 : Int32 → Int32 → Int64 → Int32 → Mem → Option (Int32 × Mem)) (j110 : Int32 → Int64 → Int32 → Mem → Option (Int32 × Mem)) (x1 : Int32) (x2 : Int32) (x3 : Int64) (x5 : Int32) (M : Mem) (u4 u6 : AV) : run (cK_judge) (KK_judge_58 j58 j110) rtI 400 (seek (cK_judge) 58) [aR (40, 0, 0), aI x1, aI x2, aL x3, u4, aI x5, u6] [] M = mK_judge_58b j58 j110 x1 x2 x3 x5 M := id rfl
theorem lK_judge_58 {E : EV} {l : Launch} {p : Program} {e : Env} {s : State} {m : MethodId} {args : Array Value} {below : List Frame} {meth : Method} {c : Code} (A : AllOK E l 62 "FreeLancesModel" prog_13_method_122_code 7 (some .int) outI (cK_judge)) (C : Cx E p s m args meth c "FreeLancesModel" prog_13_method_122_code 7 (some .int)) : ∀ (n : Nat), ∀ (x1 : Int32) (x2 : Int32) (x3 : Int64) (x5 : Int32) (M : Mem) (res : (Int32 × Mem)), mK_judge_58 n x1 x2 x3 x5 M = some res → ∀ (u4 u6 : AV), Wm E p l e 62 s m args below meth c 7 58 [aR (40, 0, 0), aI x1, aI x2, aL x3, u4, aI x5, u6] [] M (outI res).1 (outI res).2 := by
  intro n
  induction n with
  | zero => intro _ _ _ _ M res h; cases h
  | succ n ih =>
    intro x1 x2 x3 x5 M res h u4 u6
    refine run_at C A rfl hrtI (n := 400) ((eK_judge_58 (mK_judge_58 n) (mK_judge_110 fuel) x1 x2 x3 x5 M u4 u6).trans h) ?_
    intro t als st M hk
    unfold KK_judge_58 at hk
    split at hk
    · rename_i ht
      subst ht
      split at hk
      · split at hk
        · rename_i hc
          obtain ⟨rfl, rfl, rfl⟩ := hc
          exact ih _ _ _ _ _ _ hk _ _
        · cases hk
      · cases hk
    split at hk
    · rename_i ht
      subst ht
      split at hk
      · split at hk
        · rename_i hc
          obtain ⟨rfl, rfl, rfl⟩ := hc
          exact lK_judge_110 A C _ _ _ _ _ _ hk _ _ _
        · cases hk
      · cases hk
    cases hk
def KK_judge (j58 : Int32 → Int32 → Int64 → Int32 → Mem → Option (Int32 × Mem)) : Jm (Int32 × Mem) := fun t als st M =>
  if t = 58 then (match als, st with
  | [.inr (.inr (.inl (al0, bl0, cl0))), .inl x1, .inl x2, .inr (.inl x3), _, .inl x5, _], [] => if al0 = 40 ∧ bl0 = 0 ∧ cl0 = 0 then j58 x1 x2 x3 x5 M else none
  | _, _ => none) else
  none
set_option maxRecDepth 1000000 in
theorem eK_judge (j58 : Int32 → Int32 → Int64 → Int32 → Mem → Option (Int32 × Mem)) (M : Mem) : run (cK_judge) (KK_judge j58) rtI 400 (seek (cK_judge) 0) [aR (40, 0, 0), aU, aU, aU, aU, aU, aU] [] M = mK_judgeb j58 M := id rfl
theorem lK_judge {E : EV} {l : Launch} {p : Program} {e : Env} {s : State} {m : MethodId} {args : Array Value} {below : List Frame} {meth : Method} {c : Code} (A : AllOK E l 62 "FreeLancesModel" prog_13_method_122_code 7 (some .int) outI (cK_judge)) (C : Cx E p s m args meth c "FreeLancesModel" prog_13_method_122_code 7 (some .int)) : ∀ (M : Mem) (res : (Int32 × Mem)), mK_judge M = some res → Wm E p l e 62 s m args below meth c 7 0 [aR (40, 0, 0), aU, aU, aU, aU, aU, aU] [] M (outI res).1 (outI res).2 := by
  intro M res h
  refine run_at C A rfl hrtI (n := 400) ((eK_judge (mK_judge_58 fuel) M).trans h) ?_
  intro t als st M hk
  unfold KK_judge at hk
  split at hk
  · rename_i ht
    subst ht
    split at hk
    · split at hk
      · rename_i hc
        obtain ⟨rfl, rfl, rfl⟩ := hc
        exact lK_judge_58 A C _ _ _ _ _ _ _ hk _ _
      · cases hk
    · cases hk
  cases hk
def dK_judge {β : Type} : Den β := fun as M k => match as with
  | [.inr (.inr (.inl (al0, bl0, cl0)))] => if al0 = 40 ∧ bl0 = 0 ∧ cl0 = 0 then (mK_judge M).bind fun q => k (aI q.1) q.2 else none
  | _ => none
theorem wK_judge {E : EV} (hsd : E.2.2.2 = 1) (l : Launch) (M : Mem) (q : (Int32 × Mem)) (hq : mK_judge M = some q) : Con E l 62 yK_judge prog_13_method_122_code 7 (some .int) [aR (40, 0, 0)] M (outI q).1 (outI q).2 := by
  refine con_of iK_judge (Nat.le_of_ble_eq_true rfl) ?_
  intro p e s m args below meth c C
  exact lK_judge (oK_judge hsd l) C M _ hq
theorem kK_judge {E : EV} (hsd : E.2.2.2 = 1) (l : Launch) {β : Type} : DenOK E l 62 yK_judge prog_13_method_122_code 7 (some .int) true (dK_judge (β := β)) := by
  intro as M k res h
  unfold dK_judge at h
  split at h
  ·
    split at h
    · rename_i hc
      obtain ⟨rfl, rfl, rfl⟩ := hc
      obtain ⟨q, hq, hk⟩ := Option.bind_eq_some_iff.mp h
      exact ⟨aI q.1, q.2, hk, rfl, wK_judge hsd l M q hq⟩
    · cases h
  · cases h
theorem qK_judge {β : Type} : RecOK 40 (dK_judge (β := β)) := by
  intro as M k res h
  unfold dK_judge at h
  split at h
  ·
    split at h
    · rename_i hc
      obtain ⟨rfl, rfl, rfl⟩ := hc
      exact ⟨_, _, _, rfl⟩
    · cases h
  · cases h
/-! ===== FreeLancesModel.count(I)I ===== -/
abbrev yK_count : MethodName := ⟨"FreeLancesModel", "count", "(I)I"⟩
theorem iK_count : MI yK_count prog_13_method_123_code 5 (some .int) 1 := ⟨tw1802, tw108, ⟨by decide, by decide⟩, by decide +kernel, by decide, by decide⟩
def cK_count : List (Ent (Int32 × Mem)) := [(false, 0, 1, sC 0),
  (false, 1, 1, sStI 2),
  (false, 2, 1, sLdI 1),
  (false, 3, 69, sSw 275 [(0, 72), (1, 72), (2, 72), (3, 72), (4, 72), (5, 72), (6, 72), (7, 72), (8, 79), (9, 84), (10, 92), (11, 148), (12, 185), (13, 245)]),
  (false, 72, 1, sLdA 0),
  (false, 73, 3, sGet 40 (fun w i M => aR (41, 0, 0))),
  (false, 76, 1, sLdI 1),
  (false, 77, 1, sIald 41 1502),
  (false, 78, 1, sRetI),
  (false, 79, 1, sLdA 0),
  (false, 80, 3, sGet 40 (fun w i M => aI (M 40 w i 22))),
  (false, 83, 1, sRetI),
  (false, 84, 1, sLdA 0),
  (false, 85, 3, sGet 40 (fun w i M => aR (41, 0, 0))),
  (false, 88, 2, sC 8),
  (false, 90, 1, sIald 41 1502),
  (false, 91, 1, sRetI),
  (false, 92, 1, sC 0),
  (false, 93, 1, sStI 3),
  (true, 94, 1, sLdI 3),
  (false, 95, 1, sLdA 0),
  (false, 96, 3, sGet 40 (fun w i M => aR (41, 0, 0))),
  (false, 99, 1, sC 0),
  (false, 100, 1, sIald 41 1502),
  (false, 101, 3, sCmpGe 119),
  (false, 104, 1, sLdI 2),
  (false, 105, 1, sLdA 0),
  (false, 106, 1, sLdI 3),
  (false, 107, 1, sC 0),
  (false, 108, 3, sInv 3 true dK_ofTown),
  (false, 111, 1, sBin (fun x y => x + y)),
  (false, 112, 1, sStI 2),
  (false, 113, 3, sInc 3 1),
  (false, 116, 3, sGoto 94),
  (false, 119, 1, sC 0),
  (false, 120, 1, sStI 3),
  (true, 121, 1, sLdI 3),
  (false, 122, 1, sLdA 0),
  (false, 123, 3, sGet 40 (fun w i M => aR (41, 0, 0))),
  (false, 126, 1, sC 2),
  (false, 127, 1, sIald 41 1502),
  (false, 128, 3, sCmpGe 146),
  (false, 131, 1, sLdI 2),
  (false, 132, 1, sLdA 0),
  (false, 133, 1, sLdI 3),
  (false, 134, 1, sC 0),
  (false, 135, 3, sInv 3 true dK_own),
  (false, 138, 1, sBin (fun x y => x + y)),
  (false, 139, 1, sStI 2),
  (false, 140, 3, sInc 3 1),
  (false, 143, 3, sGoto 121),
  (false, 146, 1, sLdI 2),
  (false, 147, 1, sRetI),
  (false, 148, 1, sC 0),
  (false, 149, 1, sStI 3),
  (true, 150, 1, sLdI 3),
  (false, 151, 1, sLdA 0),
  (false, 152, 3, sGet 40 (fun w i M => aR (41, 0, 0))),
  (false, 155, 1, sC 3),
  (false, 156, 1, sIald 41 1502),
  (false, 157, 3, sCmpGe 183),
  (false, 160, 1, sLdI 2),
  (false, 161, 1, sLdA 0),
  (false, 162, 1, sLdI 3),
  (false, 163, 1, sC 3),
  (false, 164, 3, sInv 3 true dK_its),
  (false, 167, 3, sIfNe 174),
  (false, 170, 1, sC 1),
  (false, 171, 3, sGoto 175),
  (false, 174, 1, sC 0),
  (false, 175, 1, sBin (fun x y => x + y)),
  (false, 176, 1, sStI 2),
  (false, 177, 3, sInc 3 1),
  (false, 180, 3, sGoto 150),
  (false, 183, 1, sLdI 2),
  (false, 184, 1, sRetI),
  (false, 185, 1, sC 0),
  (false, 186, 1, sStI 3),
  (true, 187, 1, sLdI 3),
  (false, 188, 1, sLdA 0),
  (false, 189, 3, sGet 40 (fun w i M => aR (41, 0, 0))),
  (false, 192, 1, sC 5),
  (false, 193, 1, sIald 41 1502),
  (false, 194, 3, sCmpGe 243),
  (false, 197, 1, sLdI 3),
  (false, 198, 1, sC 1),
  (false, 199, 1, sBin (fun x y => x + y)),
  (false, 200, 2, sStI 4),
  (true, 202, 2, sLdI 4),
  (false, 204, 1, sLdA 0),
  (false, 205, 3, sGet 40 (fun w i M => aR (41, 0, 0))),
  (false, 208, 1, sC 5),
  (false, 209, 1, sIald 41 1502),
  (false, 210, 3, sCmpGe 237),
  (false, 213, 1, sLdI 2),
  (false, 214, 1, sLdA 0),
  (false, 215, 1, sLdI 3),
  (false, 216, 2, sLdI 4),
  (false, 218, 3, sInv 3 true dK_clashOf),
  (false, 221, 3, sIfLt 228),
  (false, 224, 1, sC 1),
  (false, 225, 3, sGoto 229),
  (false, 228, 1, sC 0),
  (false, 229, 1, sBin (fun x y => x + y)),
  (false, 230, 1, sStI 2),
  (false, 231, 3, sInc 4 1),
  (false, 234, 3, sGoto 202),
  (false, 237, 3, sInc 3 1),
  (false, 240, 3, sGoto 187),
  (false, 243, 1, sLdI 2),
  (false, 244, 1, sRetI),
  (false, 245, 1, sC 0),
  (false, 246, 1, sStI 3),
  (true, 247, 1, sLdI 3),
  (false, 248, 1, sLdA 0),
  (false, 249, 3, sGet 40 (fun w i M => aR (41, 0, 0))),
  (false, 252, 1, sC 5),
  (false, 253, 1, sIald 41 1502),
  (false, 254, 3, sCmpGe 273),
  (false, 257, 1, sLdI 2),
  (false, 258, 1, sLdA 0),
  (false, 259, 1, sLdI 3),
  (false, 260, 2, sC 8),
  (false, 262, 3, sInv 3 true dK_bond),
  (false, 265, 1, sBin (fun x y => x + y)),
  (false, 266, 1, sStI 2),
  (false, 267, 3, sInc 3 1),
  (false, 270, 3, sGoto 247),
  (false, 273, 1, sLdI 2),
  (false, 274, 1, sRetI),
  (false, 275, 1, sLdA 0),
  (false, 276, 1, sC 1),
  (false, 277, 3, sInv 2 true dK_finds),
  (false, 280, 1, sRetI)]
theorem oK_count {E : EV} (hsd : E.2.2.2 = 1) (l : Launch) : AllOK E l 5 "FreeLancesModel" prog_13_method_123_code 5 (some .int) outI (cK_count) := by
  refine ak (ok_iconst (n := 0) (by decide) (by decide +kernel)) ?_
  refine ak (ok_istore_n (k := 2) rfl (by decide) (by decide +kernel)) ?_
  refine ak (ok_iload_n (k := 1) rfl (by decide +kernel)) ?_
  refine ak (ok_table (df := 272) (lo := 0) (hi := 13) (offs := #[69, 69, 69, 69, 69, 69, 69, 69, 76, 81, 89, 145, 182, 242]) (by decide) (by decide) (by decide) (by decide +kernel)) ?_
  refine ak (ok_aload_n (k := 0) rfl (by decide +kernel)) ?_
  refine ak (ok_get (k := 0) ck11 kd40 (by decide) (fun _ _ _ => rfl) (vf_40_0 hsd) tw1242 (by decide +kernel)) ?_
  refine ak (ok_iload_n (k := 1) rfl (by decide +kernel)) ?_
  refine ak (ok_iald kd41 (by decide) (by decide +kernel)) ?_
  refine ak (ok_ireturn rfl (by decide +kernel)) ?_
  refine ak (ok_aload_n (k := 0) rfl (by decide +kernel)) ?_
  refine ak (ok_get (k := 22) ck11 kd40 (by decide) (fun _ _ _ => rfl) (fun _ _ _ _ _ => trivial) tw1264 (by decide +kernel)) ?_
  refine ak (ok_ireturn rfl (by decide +kernel)) ?_
  refine ak (ok_aload_n (k := 0) rfl (by decide +kernel)) ?_
  refine ak (ok_get (k := 0) ck11 kd40 (by decide) (fun _ _ _ => rfl) (vf_40_0 hsd) tw1242 (by decide +kernel)) ?_
  refine ak (ok_bipush (n := 8) (by decide) (by decide +kernel)) ?_
  refine ak (ok_iald kd41 (by decide) (by decide +kernel)) ?_
  refine ak (ok_ireturn rfl (by decide +kernel)) ?_
  refine ak (ok_iconst (n := 0) (by decide) (by decide +kernel)) ?_
  refine ak (ok_istore_n (k := 3) rfl (by decide) (by decide +kernel)) ?_
  refine ak (ok_iload_n (k := 3) rfl (by decide +kernel)) ?_
  refine ak (ok_aload_n (k := 0) rfl (by decide +kernel)) ?_
  refine ak (ok_get (k := 0) ck11 kd40 (by decide) (fun _ _ _ => rfl) (vf_40_0 hsd) tw1242 (by decide +kernel)) ?_
  refine ak (ok_iconst (n := 0) (by decide) (by decide +kernel)) ?_
  refine ak (ok_iald kd41 (by decide) (by decide +kernel)) ?_
  refine ak (ok_icmp_ge (off := 18) (by decide) (by decide +kernel)) ?_
  refine ak (ok_iload_n (k := 2) rfl (by decide +kernel)) ?_
  refine ak (ok_aload_n (k := 0) rfl (by decide +kernel)) ?_
  refine ak (ok_iload_n (k := 3) rfl (by decide +kernel)) ?_
  refine ak (ok_iconst (n := 0) (by decide) (by decide +kernel)) ?_
  refine ak (ok_invV (r := 40) (kK_ofTown hsd l) qK_ofTown ck11 kd40 iK_ofTown tw1359 tw40 (by decide) tw1357 (by decide +kernel)) ?_
  refine ak (ok_iadd (by decide +kernel)) ?_
  refine ak (ok_istore_n (k := 2) rfl (by decide) (by decide +kernel)) ?_
  refine ak (ok_iinc (n := 1) (by decide) (by decide) (by decide +kernel)) ?_
  refine ak (ok_goto (off := (-22)) (by decide) (by decide +kernel)) ?_
  refine ak (ok_iconst (n := 0) (by decide) (by decide +kernel)) ?_
  refine ak (ok_istore_n (k := 3) rfl (by decide) (by decide +kernel)) ?_
  refine ak (ok_iload_n (k := 3) rfl (by decide +kernel)) ?_
  refine ak (ok_aload_n (k := 0) rfl (by decide +kernel)) ?_
  refine ak (ok_get (k := 0) ck11 kd40 (by decide) (fun _ _ _ => rfl) (vf_40_0 hsd) tw1242 (by decide +kernel)) ?_
  refine ak (ok_iconst (n := 2) (by decide) (by decide +kernel)) ?_
  refine ak (ok_iald kd41 (by decide) (by decide +kernel)) ?_
  refine ak (ok_icmp_ge (off := 18) (by decide) (by decide +kernel)) ?_
  refine ak (ok_iload_n (k := 2) rfl (by decide +kernel)) ?_
  refine ak (ok_aload_n (k := 0) rfl (by decide +kernel)) ?_
  refine ak (ok_iload_n (k := 3) rfl (by decide +kernel)) ?_
  refine ak (ok_iconst (n := 0) (by decide) (by decide +kernel)) ?_
  refine ak (ok_invV (r := 40) (kK_own hsd l) qK_own ck11 kd40 iK_own tw1363 tw41 (by decide) tw1361 (by decide +kernel)) ?_
  refine ak (ok_iadd (by decide +kernel)) ?_
  refine ak (ok_istore_n (k := 2) rfl (by decide) (by decide +kernel)) ?_
  refine ak (ok_iinc (n := 1) (by decide) (by decide) (by decide +kernel)) ?_
  refine ak (ok_goto (off := (-22)) (by decide) (by decide +kernel)) ?_
  refine ak (ok_iload_n (k := 2) rfl (by decide +kernel)) ?_
  refine ak (ok_ireturn rfl (by decide +kernel)) ?_
  refine ak (ok_iconst (n := 0) (by decide) (by decide +kernel)) ?_
  refine ak (ok_istore_n (k := 3) rfl (by decide) (by decide +kernel)) ?_
  refine ak (ok_iload_n (k := 3) rfl (by decide +kernel)) ?_
  refine ak (ok_aload_n (k := 0) rfl (by decide +kernel)) ?_
  refine ak (ok_get (k := 0) ck11 kd40 (by decide) (fun _ _ _ => rfl) (vf_40_0 hsd) tw1242 (by decide +kernel)) ?_
  refine ak (ok_iconst (n := 3) (by decide) (by decide +kernel)) ?_
  refine ak (ok_iald kd41 (by decide) (by decide +kernel)) ?_
  refine ak (ok_icmp_ge (off := 26) (by decide) (by decide +kernel)) ?_
  refine ak (ok_iload_n (k := 2) rfl (by decide +kernel)) ?_
  refine ak (ok_aload_n (k := 0) rfl (by decide +kernel)) ?_
  refine ak (ok_iload_n (k := 3) rfl (by decide +kernel)) ?_
  refine ak (ok_iconst (n := 3) (by decide) (by decide +kernel)) ?_
  refine ak (ok_invV (r := 40) (kK_its hsd l) qK_its ck11 kd40 iK_its tw1408 tw46 (by decide) tw1406 (by decide +kernel)) ?_
  refine ak (ok_if_ne (off := 7) (by decide) (by decide +kernel)) ?_
  refine ak (ok_iconst (n := 1) (by decide) (by decide +kernel)) ?_
  refine ak (ok_goto (off := 4) (by decide) (by decide +kernel)) ?_
  refine ak (ok_iconst (n := 0) (by decide) (by decide +kernel)) ?_
  refine ak (ok_iadd (by decide +kernel)) ?_
  refine ak (ok_istore_n (k := 2) rfl (by decide) (by decide +kernel)) ?_
  refine ak (ok_iinc (n := 1) (by decide) (by decide) (by decide +kernel)) ?_
  refine ak (ok_goto (off := (-30)) (by decide) (by decide +kernel)) ?_
  refine ak (ok_iload_n (k := 2) rfl (by decide +kernel)) ?_
  refine ak (ok_ireturn rfl (by decide +kernel)) ?_
  refine ak (ok_iconst (n := 0) (by decide) (by decide +kernel)) ?_
  refine ak (ok_istore_n (k := 3) rfl (by decide) (by decide +kernel)) ?_
  refine ak (ok_iload_n (k := 3) rfl (by decide +kernel)) ?_
  refine ak (ok_aload_n (k := 0) rfl (by decide +kernel)) ?_
  refine ak (ok_get (k := 0) ck11 kd40 (by decide) (fun _ _ _ => rfl) (vf_40_0 hsd) tw1242 (by decide +kernel)) ?_
  refine ak (ok_iconst (n := 5) (by decide) (by decide +kernel)) ?_
  refine ak (ok_iald kd41 (by decide) (by decide +kernel)) ?_
  refine ak (ok_icmp_ge (off := 49) (by decide) (by decide +kernel)) ?_
  refine ak (ok_iload_n (k := 3) rfl (by decide +kernel)) ?_
  refine ak (ok_iconst (n := 1) (by decide) (by decide +kernel)) ?_
  refine ak (ok_iadd (by decide +kernel)) ?_
  refine ak (ok_istore (by decide) (by decide +kernel)) ?_
  refine ak (ok_iload (by decide +kernel)) ?_
  refine ak (ok_aload_n (k := 0) rfl (by decide +kernel)) ?_
  refine ak (ok_get (k := 0) ck11 kd40 (by decide) (fun _ _ _ => rfl) (vf_40_0 hsd) tw1242 (by decide +kernel)) ?_
  refine ak (ok_iconst (n := 5) (by decide) (by decide +kernel)) ?_
  refine ak (ok_iald kd41 (by decide) (by decide +kernel)) ?_
  refine ak (ok_icmp_ge (off := 27) (by decide) (by decide +kernel)) ?_
  refine ak (ok_iload_n (k := 2) rfl (by decide +kernel)) ?_
  refine ak (ok_aload_n (k := 0) rfl (by decide +kernel)) ?_
  refine ak (ok_iload_n (k := 3) rfl (by decide +kernel)) ?_
  refine ak (ok_iload (by decide +kernel)) ?_
  refine ak (ok_invV (r := 40) (kK_clashOf hsd l) qK_clashOf ck11 kd40 iK_clashOf tw1603 tw70 (by decide) tw1601 (by decide +kernel)) ?_
  refine ak (ok_if_lt (off := 7) (by decide) (by decide +kernel)) ?_
  refine ak (ok_iconst (n := 1) (by decide) (by decide +kernel)) ?_
  refine ak (ok_goto (off := 4) (by decide) (by decide +kernel)) ?_
  refine ak (ok_iconst (n := 0) (by decide) (by decide +kernel)) ?_
  refine ak (ok_iadd (by decide +kernel)) ?_
  refine ak (ok_istore_n (k := 2) rfl (by decide) (by decide +kernel)) ?_
  refine ak (ok_iinc (n := 1) (by decide) (by decide) (by decide +kernel)) ?_
  refine ak (ok_goto (off := (-32)) (by decide) (by decide +kernel)) ?_
  refine ak (ok_iinc (n := 1) (by decide) (by decide) (by decide +kernel)) ?_
  refine ak (ok_goto (off := (-53)) (by decide) (by decide +kernel)) ?_
  refine ak (ok_iload_n (k := 2) rfl (by decide +kernel)) ?_
  refine ak (ok_ireturn rfl (by decide +kernel)) ?_
  refine ak (ok_iconst (n := 0) (by decide) (by decide +kernel)) ?_
  refine ak (ok_istore_n (k := 3) rfl (by decide) (by decide +kernel)) ?_
  refine ak (ok_iload_n (k := 3) rfl (by decide +kernel)) ?_
  refine ak (ok_aload_n (k := 0) rfl (by decide +kernel)) ?_
  refine ak (ok_get (k := 0) ck11 kd40 (by decide) (fun _ _ _ => rfl) (vf_40_0 hsd) tw1242 (by decide +kernel)) ?_
  refine ak (ok_iconst (n := 5) (by decide) (by decide +kernel)) ?_
  refine ak (ok_iald kd41 (by decide) (by decide +kernel)) ?_
  refine ak (ok_icmp_ge (off := 19) (by decide) (by decide +kernel)) ?_
  refine ak (ok_iload_n (k := 2) rfl (by decide +kernel)) ?_
  refine ak (ok_aload_n (k := 0) rfl (by decide +kernel)) ?_
  refine ak (ok_iload_n (k := 3) rfl (by decide +kernel)) ?_
  refine ak (ok_bipush (n := 8) (by decide) (by decide +kernel)) ?_
  refine ak (ok_invV (r := 40) (kK_bond hsd l) qK_bond ck11 kd40 iK_bond tw1420 tw49 (by decide) tw1418 (by decide +kernel)) ?_
  refine ak (ok_iadd (by decide +kernel)) ?_
  refine ak (ok_istore_n (k := 2) rfl (by decide) (by decide +kernel)) ?_
  refine ak (ok_iinc (n := 1) (by decide) (by decide) (by decide +kernel)) ?_
  refine ak (ok_goto (off := (-23)) (by decide) (by decide +kernel)) ?_
  refine ak (ok_iload_n (k := 2) rfl (by decide +kernel)) ?_
  refine ak (ok_ireturn rfl (by decide +kernel)) ?_
  refine ak (ok_aload_n (k := 0) rfl (by decide +kernel)) ?_
  refine ak (ok_iconst (n := 1) (by decide) (by decide +kernel)) ?_
  refine ak (ok_invV (r := 40) (kK_finds hsd l) qK_finds ck11 kd40 iK_finds tw1334 tw37 (by decide) tw1332 (by decide +kernel)) ?_
  refine ak (ok_ireturn rfl (by decide +kernel)) ?_
  exact trivial
def KK_count_247 (j247 : Int32 → Int32 → Mem → Option (Int32 × Mem)) : Jm (Int32 × Mem) := fun t als st M =>
  if t = 247 then (match als, st with
  | [.inr (.inr (.inl (al0, bl0, cl0))), _, .inl x2, .inl x3, _], [] => if al0 = 40 ∧ bl0 = 0 ∧ cl0 = 0 then j247 x2 x3 M else none
  | _, _ => none) else
  none
set_option maxRecDepth 1000000 in
theorem eK_count_247 (j247 : Int32 → Int32 → Mem → Option (Int32 × Mem)) (x2 : Int32) (x3 : Int32) (M : Mem) (u1 u4 : AV) : run (cK_count) (KK_count_247 j247) rtI 400 (seek (cK_count) 247) [aR (40, 0, 0), u1, aI x2, aI x3, u4] [] M = mK_count_247b j247 x2 x3 M := id rfl
theorem lK_count_247 {E : EV} {l : Launch} {p : Program} {e : Env} {s : State} {m : MethodId} {args : Array Value} {below : List Frame} {meth : Method} {c : Code} (A : AllOK E l 5 "FreeLancesModel" prog_13_method_123_code 5 (some .int) outI (cK_count)) (C : Cx E p s m args meth c "FreeLancesModel" prog_13_method_123_code 5 (some .int)) : ∀ (n : Nat), ∀ (x2 : Int32) (x3 : Int32) (M : Mem) (res : (Int32 × Mem)), mK_count_247 n x2 x3 M = some res → ∀ (u1 u4 : AV), Wm E p l e 5 s m args below meth c 5 247 [aR (40, 0, 0), u1, aI x2, aI x3, u4] [] M (outI res).1 (outI res).2 := by
  intro n
  induction n with
  | zero => intro _ _ M res h; cases h
  | succ n ih =>
    intro x2 x3 M res h u1 u4
    refine run_at C A rfl hrtI (n := 400) ((eK_count_247 (mK_count_247 n) x2 x3 M u1 u4).trans h) ?_
    intro t als st M hk
    unfold KK_count_247 at hk
    split at hk
    · rename_i ht
      subst ht
      split at hk
      · split at hk
        · rename_i hc
          obtain ⟨rfl, rfl, rfl⟩ := hc
          exact ih _ _ _ _ hk _ _
        · cases hk
      · cases hk
    cases hk
def KK_count_202 (j187 : Int32 → Int32 → Mem → Option (Int32 × Mem)) (j202 : Int32 → Int32 → Int32 → Mem → Option (Int32 × Mem)) : Jm (Int32 × Mem) := fun t als st M =>
  if t = 187 then (match als, st with
  | [.inr (.inr (.inl (al0, bl0, cl0))), _, .inl x2, .inl x3, _], [] => if al0 = 40 ∧ bl0 = 0 ∧ cl0 = 0 then j187 x2 x3 M else none
  | _, _ => none) else
  if t = 202 then (match als, st with
  | [.inr (.inr (.inl (al0, bl0, cl0))), _, .inl x2, .inl x3, .inl x4], [] => if al0 = 40 ∧ bl0 = 0 ∧ cl0 = 0 then j202 x2 x3 x4 M else none
  | _, _ => none) else
  none
set_option maxRecDepth 1000000 in
theorem eK_count_202 (j187 : Int32 → Int32 → Mem → Option (Int32 × Mem)) (j202 : Int32 → Int32 → Int32 → Mem → Option (Int32 × Mem)) (x2 : Int32) (x3 : Int32) (x4 : Int32) (M : Mem) (u1 : AV) : run (cK_count) (KK_count_202 j187 j202) rtI 400 (seek (cK_count) 202) [aR (40, 0, 0), u1, aI x2, aI x3, aI x4] [] M = mK_count_202b j187 j202 x2 x3 x4 M := id rfl
theorem lK_count_202 {E : EV} {l : Launch} {p : Program} {e : Env} {s : State} {m : MethodId} {args : Array Value} {below : List Frame} {meth : Method} {c : Code} (A : AllOK E l 5 "FreeLancesModel" prog_13_method_123_code 5 (some .int) outI (cK_count)) (C : Cx E p s m args meth c "FreeLancesModel" prog_13_method_123_code 5 (some .int)) {r187 : Int32 → Int32 → Mem → Option (Int32 × Mem)} (H187 : ∀ (x2 : Int32) (x3 : Int32) (M : Mem) (res : (Int32 × Mem)), r187 x2 x3 M = some res → ∀ (u1 u4 : AV), Wm E p l e 5 s m args below meth c 5 187 [aR (40, 0, 0), u1, aI x2, aI x3, u4] [] M (outI res).1 (outI res).2) : ∀ (n : Nat), ∀ (x2 : Int32) (x3 : Int32) (x4 : Int32) (M : Mem) (res : (Int32 × Mem)), mK_count_202 r187 n x2 x3 x4 M = some res → ∀ (u1 : AV), Wm E p l e 5 s m args below meth c 5 202 [aR (40, 0, 0), u1, aI x2, aI x3, aI x4] [] M (outI res).1 (outI res).2 := by
  intro n
  induction n with
  | zero => intro _ _ _ M res h; cases h
  | succ n ih =>
    intro x2 x3 x4 M res h u1
    refine run_at C A rfl hrtI (n := 400) ((eK_count_202 r187 (mK_count_202 r187 n) x2 x3 x4 M u1).trans h) ?_
    intro t als st M hk
    unfold KK_count_202 at hk
    split at hk
    · rename_i ht
      subst ht
      split at hk
      · split at hk
        · rename_i hc
          obtain ⟨rfl, rfl, rfl⟩ := hc
          exact H187 _ _ _ _ hk _ _
        · cases hk
      · cases hk
    split at hk
    · rename_i ht
      subst ht
      split at hk
      · split at hk
        · rename_i hc
          obtain ⟨rfl, rfl, rfl⟩ := hc
          exact ih _ _ _ _ _ hk _
        · cases hk
      · cases hk
    cases hk
def KK_count_187 (j202 : Int32 → Int32 → Int32 → Mem → Option (Int32 × Mem)) : Jm (Int32 × Mem) := fun t als st M =>
  if t = 202 then (match als, st with
  | [.inr (.inr (.inl (al0, bl0, cl0))), _, .inl x2, .inl x3, .inl x4], [] => if al0 = 40 ∧ bl0 = 0 ∧ cl0 = 0 then j202 x2 x3 x4 M else none
  | _, _ => none) else
  none
set_option maxRecDepth 1000000 in
theorem eK_count_187 (j202 : Int32 → Int32 → Int32 → Mem → Option (Int32 × Mem)) (x2 : Int32) (x3 : Int32) (M : Mem) (u1 u4 : AV) : run (cK_count) (KK_count_187 j202) rtI 400 (seek (cK_count) 187) [aR (40, 0, 0), u1, aI x2, aI x3, u4] [] M = mK_count_187b j202 x2 x3 M := id rfl
theorem lK_count_187 {E : EV} {l : Launch} {p : Program} {e : Env} {s : State} {m : MethodId} {args : Array Value} {below : List Frame} {meth : Method} {c : Code} (A : AllOK E l 5 "FreeLancesModel" prog_13_method_123_code 5 (some .int) outI (cK_count)) (C : Cx E p s m args meth c "FreeLancesModel" prog_13_method_123_code 5 (some .int)) : ∀ (n : Nat), ∀ (x2 : Int32) (x3 : Int32) (M : Mem) (res : (Int32 × Mem)), mK_count_187 n x2 x3 M = some res → ∀ (u1 u4 : AV), Wm E p l e 5 s m args below meth c 5 187 [aR (40, 0, 0), u1, aI x2, aI x3, u4] [] M (outI res).1 (outI res).2 := by
  intro n
  induction n with
  | zero => intro _ _ M res h; cases h
  | succ n ih =>
    intro x2 x3 M res h u1 u4
    refine run_at C A rfl hrtI (n := 400) ((eK_count_187 (mK_count_202 (mK_count_187 n) fuel) x2 x3 M u1 u4).trans h) ?_
    intro t als st M hk
    unfold KK_count_187 at hk
    split at hk
    · rename_i ht
      subst ht
      split at hk
      · split at hk
        · rename_i hc
          obtain ⟨rfl, rfl, rfl⟩ := hc
          exact lK_count_202 A C ih _ _ _ _ _ _ hk _
        · cases hk
      · cases hk
    cases hk
def KK_count_150 (j150 : Int32 → Int32 → Mem → Option (Int32 × Mem)) : Jm (Int32 × Mem) := fun t als st M =>
  if t = 150 then (match als, st with
  | [.inr (.inr (.inl (al0, bl0, cl0))), _, .inl x2, .inl x3, _], [] => if al0 = 40 ∧ bl0 = 0 ∧ cl0 = 0 then j150 x2 x3 M else none
  | _, _ => none) else
  none
set_option maxRecDepth 1000000 in
theorem eK_count_150 (j150 : Int32 → Int32 → Mem → Option (Int32 × Mem)) (x2 : Int32) (x3 : Int32) (M : Mem) (u1 u4 : AV) : run (cK_count) (KK_count_150 j150) rtI 400 (seek (cK_count) 150) [aR (40, 0, 0), u1, aI x2, aI x3, u4] [] M = mK_count_150b j150 x2 x3 M := id rfl
theorem lK_count_150 {E : EV} {l : Launch} {p : Program} {e : Env} {s : State} {m : MethodId} {args : Array Value} {below : List Frame} {meth : Method} {c : Code} (A : AllOK E l 5 "FreeLancesModel" prog_13_method_123_code 5 (some .int) outI (cK_count)) (C : Cx E p s m args meth c "FreeLancesModel" prog_13_method_123_code 5 (some .int)) : ∀ (n : Nat), ∀ (x2 : Int32) (x3 : Int32) (M : Mem) (res : (Int32 × Mem)), mK_count_150 n x2 x3 M = some res → ∀ (u1 u4 : AV), Wm E p l e 5 s m args below meth c 5 150 [aR (40, 0, 0), u1, aI x2, aI x3, u4] [] M (outI res).1 (outI res).2 := by
  intro n
  induction n with
  | zero => intro _ _ M res h; cases h
  | succ n ih =>
    intro x2 x3 M res h u1 u4
    refine run_at C A rfl hrtI (n := 400) ((eK_count_150 (mK_count_150 n) x2 x3 M u1 u4).trans h) ?_
    intro t als st M hk
    unfold KK_count_150 at hk
    split at hk
    · rename_i ht
      subst ht
      split at hk
      · split at hk
        · rename_i hc
          obtain ⟨rfl, rfl, rfl⟩ := hc
          exact ih _ _ _ _ hk _ _
        · cases hk
      · cases hk
    cases hk
def KK_count_121 (j121 : Int32 → Int32 → Mem → Option (Int32 × Mem)) : Jm (Int32 × Mem) := fun t als st M =>
  if t = 121 then (match als, st with
  | [.inr (.inr (.inl (al0, bl0, cl0))), _, .inl x2, .inl x3, _], [] => if al0 = 40 ∧ bl0 = 0 ∧ cl0 = 0 then j121 x2 x3 M else none
  | _, _ => none) else
  none
set_option maxRecDepth 1000000 in
theorem eK_count_121 (j121 : Int32 → Int32 → Mem → Option (Int32 × Mem)) (x2 : Int32) (x3 : Int32) (M : Mem) (u1 u4 : AV) : run (cK_count) (KK_count_121 j121) rtI 400 (seek (cK_count) 121) [aR (40, 0, 0), u1, aI x2, aI x3, u4] [] M = mK_count_121b j121 x2 x3 M := id rfl
theorem lK_count_121 {E : EV} {l : Launch} {p : Program} {e : Env} {s : State} {m : MethodId} {args : Array Value} {below : List Frame} {meth : Method} {c : Code} (A : AllOK E l 5 "FreeLancesModel" prog_13_method_123_code 5 (some .int) outI (cK_count)) (C : Cx E p s m args meth c "FreeLancesModel" prog_13_method_123_code 5 (some .int)) : ∀ (n : Nat), ∀ (x2 : Int32) (x3 : Int32) (M : Mem) (res : (Int32 × Mem)), mK_count_121 n x2 x3 M = some res → ∀ (u1 u4 : AV), Wm E p l e 5 s m args below meth c 5 121 [aR (40, 0, 0), u1, aI x2, aI x3, u4] [] M (outI res).1 (outI res).2 := by
  intro n
  induction n with
  | zero => intro _ _ M res h; cases h
  | succ n ih =>
    intro x2 x3 M res h u1 u4
    refine run_at C A rfl hrtI (n := 400) ((eK_count_121 (mK_count_121 n) x2 x3 M u1 u4).trans h) ?_
    intro t als st M hk
    unfold KK_count_121 at hk
    split at hk
    · rename_i ht
      subst ht
      split at hk
      · split at hk
        · rename_i hc
          obtain ⟨rfl, rfl, rfl⟩ := hc
          exact ih _ _ _ _ hk _ _
        · cases hk
      · cases hk
    cases hk
def KK_count_94 (j94 : Int32 → Int32 → Mem → Option (Int32 × Mem)) (j121 : Int32 → Int32 → Mem → Option (Int32 × Mem)) : Jm (Int32 × Mem) := fun t als st M =>
  if t = 94 then (match als, st with
  | [.inr (.inr (.inl (al0, bl0, cl0))), _, .inl x2, .inl x3, _], [] => if al0 = 40 ∧ bl0 = 0 ∧ cl0 = 0 then j94 x2 x3 M else none
  | _, _ => none) else
  if t = 121 then (match als, st with
  | [.inr (.inr (.inl (al0, bl0, cl0))), _, .inl x2, .inl x3, _], [] => if al0 = 40 ∧ bl0 = 0 ∧ cl0 = 0 then j121 x2 x3 M else none
  | _, _ => none) else
  none
set_option maxRecDepth 1000000 in
theorem eK_count_94 (j94 : Int32 → Int32 → Mem → Option (Int32 × Mem)) (j121 : Int32 → Int32 → Mem → Option (Int32 × Mem)) (x2 : Int32) (x3 : Int32) (M : Mem) (u1 u4 : AV) : run (cK_count) (KK_count_94 j94 j121) rtI 400 (seek (cK_count) 94) [aR (40, 0, 0), u1, aI x2, aI x3, u4] [] M = mK_count_94b j94 j121 x2 x3 M := id rfl
theorem lK_count_94 {E : EV} {l : Launch} {p : Program} {e : Env} {s : State} {m : MethodId} {args : Array Value} {below : List Frame} {meth : Method} {c : Code} (A : AllOK E l 5 "FreeLancesModel" prog_13_method_123_code 5 (some .int) outI (cK_count)) (C : Cx E p s m args meth c "FreeLancesModel" prog_13_method_123_code 5 (some .int)) : ∀ (n : Nat), ∀ (x2 : Int32) (x3 : Int32) (M : Mem) (res : (Int32 × Mem)), mK_count_94 n x2 x3 M = some res → ∀ (u1 u4 : AV), Wm E p l e 5 s m args below meth c 5 94 [aR (40, 0, 0), u1, aI x2, aI x3, u4] [] M (outI res).1 (outI res).2 := by
  intro n
  induction n with
  | zero => intro _ _ M res h; cases h
  | succ n ih =>
    intro x2 x3 M res h u1 u4
    refine run_at C A rfl hrtI (n := 400) ((eK_count_94 (mK_count_94 n) (mK_count_121 fuel) x2 x3 M u1 u4).trans h) ?_
    intro t als st M hk
    unfold KK_count_94 at hk
    split at hk
    · rename_i ht
      subst ht
      split at hk
      · split at hk
        · rename_i hc
          obtain ⟨rfl, rfl, rfl⟩ := hc
          exact ih _ _ _ _ hk _ _
        · cases hk
      · cases hk
    split at hk
    · rename_i ht
      subst ht
      split at hk
      · split at hk
        · rename_i hc
          obtain ⟨rfl, rfl, rfl⟩ := hc
          exact lK_count_121 A C _ _ _ _ _ hk _ _
        · cases hk
      · cases hk
    cases hk
def KK_count (j94 : Int32 → Int32 → Mem → Option (Int32 × Mem)) (j150 : Int32 → Int32 → Mem → Option (Int32 × Mem)) (j187 : Int32 → Int32 → Mem → Option (Int32 × Mem)) (j247 : Int32 → Int32 → Mem → Option (Int32 × Mem)) : Jm (Int32 × Mem) := fun t als st M =>
  if t = 94 then (match als, st with
  | [.inr (.inr (.inl (al0, bl0, cl0))), _, .inl x2, .inl x3, _], [] => if al0 = 40 ∧ bl0 = 0 ∧ cl0 = 0 then j94 x2 x3 M else none
  | _, _ => none) else
  if t = 150 then (match als, st with
  | [.inr (.inr (.inl (al0, bl0, cl0))), _, .inl x2, .inl x3, _], [] => if al0 = 40 ∧ bl0 = 0 ∧ cl0 = 0 then j150 x2 x3 M else none
  | _, _ => none) else
  if t = 187 then (match als, st with
  | [.inr (.inr (.inl (al0, bl0, cl0))), _, .inl x2, .inl x3, _], [] => if al0 = 40 ∧ bl0 = 0 ∧ cl0 = 0 then j187 x2 x3 M else none
  | _, _ => none) else
  if t = 247 then (match als, st with
  | [.inr (.inr (.inl (al0, bl0, cl0))), _, .inl x2, .inl x3, _], [] => if al0 = 40 ∧ bl0 = 0 ∧ cl0 = 0 then j247 x2 x3 M else none
  | _, _ => none) else
  none
set_option maxRecDepth 1000000 in
theorem eK_count (j94 : Int32 → Int32 → Mem → Option (Int32 × Mem)) (j150 : Int32 → Int32 → Mem → Option (Int32 × Mem)) (j187 : Int32 → Int32 → Mem → Option (Int32 × Mem)) (j247 : Int32 → Int32 → Mem → Option (Int32 × Mem)) (x1 : Int32) (M : Mem) : run (cK_count) (KK_count j94 j150 j187 j247) rtI 400 (seek (cK_count) 0) [aR (40, 0, 0), aI x1, aU, aU, aU] [] M = mK_countb j94 j150 j187 j247 x1 M := id rfl
theorem lK_count {E : EV} {l : Launch} {p : Program} {e : Env} {s : State} {m : MethodId} {args : Array Value} {below : List Frame} {meth : Method} {c : Code} (A : AllOK E l 5 "FreeLancesModel" prog_13_method_123_code 5 (some .int) outI (cK_count)) (C : Cx E p s m args meth c "FreeLancesModel" prog_13_method_123_code 5 (some .int)) : ∀ (x1 : Int32) (M : Mem) (res : (Int32 × Mem)), mK_count x1 M = some res → Wm E p l e 5 s m args below meth c 5 0 [aR (40, 0, 0), aI x1, aU, aU, aU] [] M (outI res).1 (outI res).2 := by
  intro x1 M res h
  refine run_at C A rfl hrtI (n := 400) ((eK_count (mK_count_94 fuel) (mK_count_150 fuel) (mK_count_187 fuel) (mK_count_247 fuel) x1 M).trans h) ?_
  intro t als st M hk
  unfold KK_count at hk
  split at hk
  · rename_i ht
    subst ht
    split at hk
    · split at hk
      · rename_i hc
        obtain ⟨rfl, rfl, rfl⟩ := hc
        exact lK_count_94 A C _ _ _ _ _ hk _ _
      · cases hk
    · cases hk
  split at hk
  · rename_i ht
    subst ht
    split at hk
    · split at hk
      · rename_i hc
        obtain ⟨rfl, rfl, rfl⟩ := hc
        exact lK_count_150 A C _ _ _ _ _ hk _ _
      · cases hk
    · cases hk
  split at hk
  · rename_i ht
    subst ht
    split at hk
    · split at hk
      · rename_i hc
        obtain ⟨rfl, rfl, rfl⟩ := hc
        exact lK_count_187 A C _ _ _ _ _ hk _ _
      · cases hk
    · cases hk
  split at hk
  · rename_i ht
    subst ht
    split at hk
    · split at hk
      · rename_i hc
        obtain ⟨rfl, rfl, rfl⟩ := hc
        exact lK_count_247 A C _ _ _ _ _ hk _ _
      · cases hk
    · cases hk
  cases hk
def dK_count {β : Type} : Den β := fun as M k => match as with
  | [.inr (.inr (.inl (al0, bl0, cl0))), .inl x1] => if al0 = 40 ∧ bl0 = 0 ∧ cl0 = 0 then (mK_count x1 M).bind fun q => k (aI q.1) q.2 else none
  | _ => none
theorem wK_count {E : EV} (hsd : E.2.2.2 = 1) (l : Launch) (x1 : Int32) (M : Mem) (q : (Int32 × Mem)) (hq : mK_count x1 M = some q) : Con E l 5 yK_count prog_13_method_123_code 5 (some .int) [aR (40, 0, 0), aI x1] M (outI q).1 (outI q).2 := by
  refine con_of iK_count (Nat.le_of_ble_eq_true rfl) ?_
  intro p e s m args below meth c C
  exact lK_count (oK_count hsd l) C x1 M _ hq
theorem kK_count {E : EV} (hsd : E.2.2.2 = 1) (l : Launch) {β : Type} : DenOK E l 5 yK_count prog_13_method_123_code 5 (some .int) true (dK_count (β := β)) := by
  intro as M k res h
  unfold dK_count at h
  split at h
  ·
    split at h
    · rename_i hc
      obtain ⟨rfl, rfl, rfl⟩ := hc
      obtain ⟨q, hq, hk⟩ := Option.bind_eq_some_iff.mp h
      exact ⟨aI q.1, q.2, hk, rfl, wK_count hsd l _ M q hq⟩
    · cases h
  · cases h
theorem qK_count {β : Type} : RecOK 40 (dK_count (β := β)) := by
  intro as M k res h
  unfold dK_count at h
  split at h
  ·
    split at h
    · rename_i hc
      obtain ⟨rfl, rfl, rfl⟩ := hc
      exact ⟨_, _, _, rfl⟩
    · cases h
  · cases h
/-! ===== FreeLancesModel.found(I)I ===== -/
abbrev yK_found : MethodName := ⟨"FreeLancesModel", "found", "(I)I"⟩
theorem iK_found : MI yK_found prog_13_method_124_code 2 (some .int) 1 := ⟨tw1806, tw108, ⟨by decide, by decide⟩, by decide +kernel, by decide, by decide⟩
def cK_found : List (Ent (Int32 × Mem)) := [(false, 0, 1, sLdI 1),
  (false, 1, 1, sC 1),
  (false, 2, 1, sC 5),
  (false, 3, 3, sInv 3 true dK_in),
  (false, 6, 3, sIfEq 18),
  (false, 9, 1, sLdA 0),
  (false, 10, 3, sGet 40 (fun w i M => aR (44, 0, 0))),
  (false, 13, 1, sLdI 1),
  (false, 14, 1, sIald 44 6),
  (false, 15, 3, sGoto 23),
  (false, 18, 1, sLdA 0),
  (false, 19, 1, sC 1),
  (false, 20, 3, sInv 2 true dK_finds),
  (false, 23, 1, sRetI)]
theorem oK_found {E : EV} (hsd : E.2.2.2 = 1) (l : Launch) : AllOK E l 2 "FreeLancesModel" prog_13_method_124_code 2 (some .int) outI (cK_found) := by
  refine ak (ok_iload_n (k := 1) rfl (by decide +kernel)) ?_
  refine ak (ok_iconst (n := 1) (by decide) (by decide +kernel)) ?_
  refine ak (ok_iconst (n := 5) (by decide) (by decide +kernel)) ?_
  refine ak (ok_invS (kK_in hsd l) iK_in tw1330 (by decide) tw1329 (by decide +kernel)) ?_
  refine ak (ok_if_eq (off := 12) (by decide) (by decide +kernel)) ?_
  refine ak (ok_aload_n (k := 0) rfl (by decide +kernel)) ?_
  refine ak (ok_get (k := 3) ck11 kd40 (by decide) (fun _ _ _ => rfl) (vf_40_3 hsd) tw1245 (by decide +kernel)) ?_
  refine ak (ok_iload_n (k := 1) rfl (by decide +kernel)) ?_
  refine ak (ok_iald kd44 (by decide) (by decide +kernel)) ?_
  refine ak (ok_goto (off := 8) (by decide) (by decide +kernel)) ?_
  refine ak (ok_aload_n (k := 0) rfl (by decide +kernel)) ?_
  refine ak (ok_iconst (n := 1) (by decide) (by decide +kernel)) ?_
  refine ak (ok_invV (r := 40) (kK_finds hsd l) qK_finds ck11 kd40 iK_finds tw1334 tw37 (by decide) tw1332 (by decide +kernel)) ?_
  refine ak (ok_ireturn rfl (by decide +kernel)) ?_
  exact trivial
set_option maxRecDepth 1000000 in
theorem eK_found (x1 : Int32) (M : Mem) : run (cK_found) (fun _ _ _ _ => none) rtI 400 (seek (cK_found) 0) [aR (40, 0, 0), aI x1] [] M = mK_found x1 M := id rfl
theorem lK_found {E : EV} {l : Launch} {p : Program} {e : Env} {s : State} {m : MethodId} {args : Array Value} {below : List Frame} {meth : Method} {c : Code} (A : AllOK E l 2 "FreeLancesModel" prog_13_method_124_code 2 (some .int) outI (cK_found)) (C : Cx E p s m args meth c "FreeLancesModel" prog_13_method_124_code 2 (some .int)) : ∀ (x1 : Int32) (M : Mem) (res : (Int32 × Mem)), mK_found x1 M = some res → Wm E p l e 2 s m args below meth c 2 0 [aR (40, 0, 0), aI x1] [] M (outI res).1 (outI res).2 := by
  intro x1 M res h
  refine run_at C A rfl hrtI (n := 400) ((eK_found x1 M).trans h) ?_
  intro t als st M hk; cases hk
def dK_found {β : Type} : Den β := fun as M k => match as with
  | [.inr (.inr (.inl (al0, bl0, cl0))), .inl x1] => if al0 = 40 ∧ bl0 = 0 ∧ cl0 = 0 then (mK_found x1 M).bind fun q => k (aI q.1) q.2 else none
  | _ => none
theorem wK_found {E : EV} (hsd : E.2.2.2 = 1) (l : Launch) (x1 : Int32) (M : Mem) (q : (Int32 × Mem)) (hq : mK_found x1 M = some q) : Con E l 2 yK_found prog_13_method_124_code 2 (some .int) [aR (40, 0, 0), aI x1] M (outI q).1 (outI q).2 := by
  refine con_of iK_found (Nat.le_of_ble_eq_true rfl) ?_
  intro p e s m args below meth c C
  exact lK_found (oK_found hsd l) C x1 M _ hq
theorem kK_found {E : EV} (hsd : E.2.2.2 = 1) (l : Launch) {β : Type} : DenOK E l 2 yK_found prog_13_method_124_code 2 (some .int) true (dK_found (β := β)) := by
  intro as M k res h
  unfold dK_found at h
  split at h
  ·
    split at h
    · rename_i hc
      obtain ⟨rfl, rfl, rfl⟩ := hc
      obtain ⟨q, hq, hk⟩ := Option.bind_eq_some_iff.mp h
      exact ⟨aI q.1, q.2, hk, rfl, wK_found hsd l _ M q hq⟩
    · cases h
  · cases h
theorem qK_found {β : Type} : RecOK 40 (dK_found (β := β)) := by
  intro as M k res h
  unfold dK_found at h
  split at h
  ·
    split at h
    · rename_i hc
      obtain ⟨rfl, rfl, rfl⟩ := hc
      exact ⟨_, _, _, rfl⟩
    · cases h
  · cases h
