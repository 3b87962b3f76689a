/-! ===== FreeLancesModel.farOf(II)I ===== -/
abbrev yK_farOf : MethodName := ⟨"FreeLancesModel", "farOf", "(II)I"⟩
theorem iK_farOf : MI yK_farOf prog_13_method_18_code 9 (some .int) 2 := ⟨tw1352, tw108, ⟨by decide, by decide⟩, by decide +kernel, by decide, by decide⟩
def cK_farOf : List (Ent (Int32 × Mem)) := [(false, 0, 1, sC 0),
  (false, 1, 1, sStI 3),
  (true, 2, 1, sLdI 3),
  (false, 3, 2, sC 8),
  (false, 5, 3, sCmpGe 30),
  (false, 8, 1, sLdA 0),
  (false, 9, 3, sGet 40 (fun w i M => aR (46, 0, 0))),
  (false, 12, 1, sLdI 3),
  (false, 13, 1, sLdI 3),
  (false, 14, 1, sLdI 1),
  (false, 15, 3, sCmpNe 22),
  (false, 18, 1, sC 0),
  (false, 19, 3, sGoto 23),
  (false, 22, 1, sC (-1)),
  (false, 23, 1, sIast 46 8),
  (false, 24, 3, sInc 3 1),
  (false, 27, 3, sGoto 2),
  (false, 30, 1, sC 1),
  (false, 31, 1, sStI 3),
  (true, 32, 1, sLdI 3),
  (false, 33, 3, sIfEq 169),
  (false, 36, 1, sC 0),
  (false, 37, 1, sStI 3),
  (false, 38, 1, sC 0),
  (false, 39, 2, sStI 4),
  (true, 41, 2, sLdI 4),
  (false, 43, 1, sC 2),
  (false, 44, 1, sLdA 0),
  (false, 45, 3, sGet 40 (fun w i M => aR (41, 0, 0))),
  (false, 48, 1, sC 1),
  (false, 49, 1, sIald 41 1502),
  (false, 50, 1, sBin (fun x y => x * y)),
  (false, 51, 3, sCmpGe 166),
  (false, 54, 2, sC 52),
  (false, 56, 1, sC 3),
  (false, 57, 2, sLdI 4),
  (false, 59, 1, sC 2),
  (false, 60, 1, sBin0 (fun x y => x / y)),
  (false, 61, 1, sBin (fun x y => x * y)),
  (false, 62, 1, sBin (fun x y => x + y)),
  (false, 63, 2, sStI 5),
  (false, 65, 1, sLdA 0),
  (false, 66, 3, sGet 40 (fun w i M => aR (41, 0, 0))),
  (false, 69, 2, sLdI 5),
  (false, 71, 2, sLdI 4),
  (false, 73, 1, sC 2),
  (false, 74, 1, sBin0 (fun x y => x - x / y * y)),
  (false, 75, 1, sBin (fun x y => x + y)),
  (false, 76, 1, sIald 41 1502),
  (false, 77, 2, sStI 6),
  (false, 79, 1, sLdA 0),
  (false, 80, 3, sGet 40 (fun w i M => aR (41, 0, 0))),
  (false, 83, 2, sLdI 5),
  (false, 85, 1, sC 1),
  (false, 86, 1, sBin (fun x y => x + y)),
  (false, 87, 2, sLdI 4),
  (false, 89, 1, sC 2),
  (false, 90, 1, sBin0 (fun x y => x - x / y * y)),
  (false, 91, 1, sBin (fun x y => x - y)),
  (false, 92, 1, sIald 41 1502),
  (false, 93, 2, sStI 7),
  (false, 95, 1, sLdA 0),
  (false, 96, 3, sGet 40 (fun w i M => aR (46, 0, 0))),
  (false, 99, 2, sLdI 6),
  (false, 101, 1, sIald 46 8),
  (false, 102, 1, sLdA 0),
  (false, 103, 3, sGet 40 (fun w i M => aR (41, 0, 0))),
  (false, 106, 2, sLdI 5),
  (false, 108, 1, sC 2),
  (false, 109, 1, sBin (fun x y => x + y)),
  (false, 110, 1, sIald 41 1502),
  (false, 111, 1, sBin (fun x y => x + y)),
  (false, 112, 2, sStI 8),
  (false, 114, 1, sLdA 0),
  (false, 115, 3, sGet 40 (fun w i M => aR (46, 0, 0))),
  (false, 118, 2, sLdI 6),
  (false, 120, 1, sIald 46 8),
  (false, 121, 3, sIfLt 160),
  (false, 124, 1, sLdA 0),
  (false, 125, 3, sGet 40 (fun w i M => aR (46, 0, 0))),
  (false, 128, 2, sLdI 7),
  (false, 130, 1, sIald 46 8),
  (false, 131, 3, sIfLt 149),
  (false, 134, 1, sLdA 0),
  (false, 135, 3, sGet 40 (fun w i M => aR (46, 0, 0))),
  (false, 138, 2, sLdI 7),
  (false, 140, 1, sIald 46 8),
  (false, 141, 2, sLdI 8),
  (false, 143, 3, sCmpGt 149),
  (false, 146, 3, sGoto 160),
  (false, 149, 1, sLdA 0),
  (false, 150, 3, sGet 40 (fun w i M => aR (46, 0, 0))),
  (false, 153, 2, sLdI 7),
  (false, 155, 2, sLdI 8),
  (false, 157, 1, sIast 46 8),
  (false, 158, 1, sC 1),
  (false, 159, 1, sStI 3),
  (false, 160, 3, sInc 4 1),
  (false, 163, 3, sGoto 41),
  (false, 166, 3, sGoto 32),
  (false, 169, 1, sLdA 0),
  (false, 170, 3, sGet 40 (fun w i M => aR (46, 0, 0))),
  (false, 173, 1, sLdI 2),
  (false, 174, 1, sIald 46 8),
  (false, 175, 1, sRetI)]
theorem oK_farOf {E : EV} (hsd : E.2.2.2 = 1) (l : Launch) : AllOK E l 1 "FreeLancesModel" prog_13_method_18_code 9 (some .int) outI (cK_farOf) := by
  refine ak (ok_iconst (n := 0) (by decide) (by decide +kernel)) ?_
  refine ak (ok_istore_n (k := 3) rfl (by decide) (by decide +kernel)) ?_
  refine ak (ok_iload_n (k := 3) rfl (by decide +kernel)) ?_
  refine ak (ok_bipush (n := 8) (by decide) (by decide +kernel)) ?_
  refine ak (ok_icmp_ge (off := 25) (by decide) (by decide +kernel)) ?_
  refine ak (ok_aload_n (k := 0) rfl (by decide +kernel)) ?_
  refine ak (ok_get (k := 5) ck11 kd40 (by decide) (fun _ _ _ => rfl) (vf_40_5 hsd) tw1247 (by decide +kernel)) ?_
  refine ak (ok_iload_n (k := 3) rfl (by decide +kernel)) ?_
  refine ak (ok_iload_n (k := 3) rfl (by decide +kernel)) ?_
  refine ak (ok_iload_n (k := 1) rfl (by decide +kernel)) ?_
  refine ak (ok_icmp_ne (off := 7) (by decide) (by decide +kernel)) ?_
  refine ak (ok_iconst (n := 0) (by decide) (by decide +kernel)) ?_
  refine ak (ok_goto (off := 4) (by decide) (by decide +kernel)) ?_
  refine ak (ok_iconst (n := (-1)) (by decide) (by decide +kernel)) ?_
  refine ak (ok_iast kd46 (by decide) (by decide) (by decide +kernel)) ?_
  refine ak (ok_iinc (n := 1) (by decide) (by decide) (by decide +kernel)) ?_
  refine ak (ok_goto (off := (-25)) (by decide) (by decide +kernel)) ?_
  refine ak (ok_iconst (n := 1) (by decide) (by decide +kernel)) ?_
  refine ak (ok_istore_n (k := 3) rfl (by decide) (by decide +kernel)) ?_
  refine ak (ok_iload_n (k := 3) rfl (by decide +kernel)) ?_
  refine ak (ok_if_eq (off := 136) (by decide) (by decide +kernel)) ?_
  refine ak (ok_iconst (n := 0) (by decide) (by decide +kernel)) ?_
  refine ak (ok_istore_n (k := 3) rfl (by decide) (by decide +kernel)) ?_
  refine ak (ok_iconst (n := 0) (by decide) (by decide +kernel)) ?_
  refine ak (ok_istore (by decide) (by decide +kernel)) ?_
  refine ak (ok_iload (by decide +kernel)) ?_
  refine ak (ok_iconst (n := 2) (by decide) (by decide +kernel)) ?_
  refine ak (ok_aload_n (k := 0) rfl (by decide +kernel)) ?_
  refine ak (ok_get (k := 0) ck11 kd40 (by decide) (fun _ _ _ => rfl) (vf_40_0 hsd) tw1242 (by decide +kernel)) ?_
  refine ak (ok_iconst (n := 1) (by decide) (by decide +kernel)) ?_
  refine ak (ok_iald kd41 (by decide) (by decide +kernel)) ?_
  refine ak (ok_imul (by decide +kernel)) ?_
  refine ak (ok_icmp_ge (off := 115) (by decide) (by decide +kernel)) ?_
  refine ak (ok_bipush (n := 52) (by decide) (by decide +kernel)) ?_
  refine ak (ok_iconst (n := 3) (by decide) (by decide +kernel)) ?_
  refine ak (ok_iload (by decide +kernel)) ?_
  refine ak (ok_iconst (n := 2) (by decide) (by decide +kernel)) ?_
  refine ak (ok_idiv (by decide +kernel)) ?_
  refine ak (ok_imul (by decide +kernel)) ?_
  refine ak (ok_iadd (by decide +kernel)) ?_
  refine ak (ok_istore (by decide) (by decide +kernel)) ?_
  refine ak (ok_aload_n (k := 0) rfl (by decide +kernel)) ?_
  refine ak (ok_get (k := 0) ck11 kd40 (by decide) (fun _ _ _ => rfl) (vf_40_0 hsd) tw1242 (by decide +kernel)) ?_
  refine ak (ok_iload (by decide +kernel)) ?_
  refine ak (ok_iload (by decide +kernel)) ?_
  refine ak (ok_iconst (n := 2) (by decide) (by decide +kernel)) ?_
  refine ak (ok_irem (by decide +kernel)) ?_
  refine ak (ok_iadd (by decide +kernel)) ?_
  refine ak (ok_iald kd41 (by decide) (by decide +kernel)) ?_
  refine ak (ok_istore (by decide) (by decide +kernel)) ?_
  refine ak (ok_aload_n (k := 0) rfl (by decide +kernel)) ?_
  refine ak (ok_get (k := 0) ck11 kd40 (by decide) (fun _ _ _ => rfl) (vf_40_0 hsd) tw1242 (by decide +kernel)) ?_
  refine ak (ok_iload (by decide +kernel)) ?_
  refine ak (ok_iconst (n := 1) (by decide) (by decide +kernel)) ?_
  refine ak (ok_iadd (by decide +kernel)) ?_
  refine ak (ok_iload (by decide +kernel)) ?_
  refine ak (ok_iconst (n := 2) (by decide) (by decide +kernel)) ?_
  refine ak (ok_irem (by decide +kernel)) ?_
  refine ak (ok_isub (by decide +kernel)) ?_
  refine ak (ok_iald kd41 (by decide) (by decide +kernel)) ?_
  refine ak (ok_istore (by decide) (by decide +kernel)) ?_
  refine ak (ok_aload_n (k := 0) rfl (by decide +kernel)) ?_
  refine ak (ok_get (k := 5) ck11 kd40 (by decide) (fun _ _ _ => rfl) (vf_40_5 hsd) tw1247 (by decide +kernel)) ?_
  refine ak (ok_iload (by decide +kernel)) ?_
  refine ak (ok_iald kd46 (by decide) (by decide +kernel)) ?_
  refine ak (ok_aload_n (k := 0) rfl (by decide +kernel)) ?_
  refine ak (ok_get (k := 0) ck11 kd40 (by decide) (fun _ _ _ => rfl) (vf_40_0 hsd) tw1242 (by decide +kernel)) ?_
  refine ak (ok_iload (by decide +kernel)) ?_
  refine ak (ok_iconst (n := 2) (by decide) (by decide +kernel)) ?_
  refine ak (ok_iadd (by decide +kernel)) ?_
  refine ak (ok_iald kd41 (by decide) (by decide +kernel)) ?_
  refine ak (ok_iadd (by decide +kernel)) ?_
  refine ak (ok_istore (by decide) (by decide +kernel)) ?_
  refine ak (ok_aload_n (k := 0) rfl (by decide +kernel)) ?_
  refine ak (ok_get (k := 5) ck11 kd40 (by decide) (fun _ _ _ => rfl) (vf_40_5 hsd) tw1247 (by decide +kernel)) ?_
  refine ak (ok_iload (by decide +kernel)) ?_
  refine ak (ok_iald kd46 (by decide) (by decide +kernel)) ?_
  refine ak (ok_if_lt (off := 39) (by decide) (by decide +kernel)) ?_
  refine ak (ok_aload_n (k := 0) rfl (by decide +kernel)) ?_
  refine ak (ok_get (k := 5) ck11 kd40 (by decide) (fun _ _ _ => rfl) (vf_40_5 hsd) tw1247 (by decide +kernel)) ?_
  refine ak (ok_iload (by decide +kernel)) ?_
  refine ak (ok_iald kd46 (by decide) (by decide +kernel)) ?_
  refine ak (ok_if_lt (off := 18) (by decide) (by decide +kernel)) ?_
  refine ak (ok_aload_n (k := 0) rfl (by decide +kernel)) ?_
  refine ak (ok_get (k := 5) ck11 kd40 (by decide) (fun _ _ _ => rfl) (vf_40_5 hsd) tw1247 (by decide +kernel)) ?_
  refine ak (ok_iload (by decide +kernel)) ?_
  refine ak (ok_iald kd46 (by decide) (by decide +kernel)) ?_
  refine ak (ok_iload (by decide +kernel)) ?_
  refine ak (ok_icmp_gt (off := 6) (by decide) (by decide +kernel)) ?_
  refine ak (ok_goto (off := 14) (by decide) (by decide +kernel)) ?_
  refine ak (ok_aload_n (k := 0) rfl (by decide +kernel)) ?_
  refine ak (ok_get (k := 5) ck11 kd40 (by decide) (fun _ _ _ => rfl) (vf_40_5 hsd) tw1247 (by decide +kernel)) ?_
  refine ak (ok_iload (by decide +kernel)) ?_
  refine ak (ok_iload (by decide +kernel)) ?_
  refine ak (ok_iast kd46 (by decide) (by decide) (by decide +kernel)) ?_
  refine ak (ok_iconst (n := 1) (by decide) (by decide +kernel)) ?_
  refine ak (ok_istore_n (k := 3) rfl (by decide) (by decide +kernel)) ?_
  refine ak (ok_iinc (n := 1) (by decide) (by decide) (by decide +kernel)) ?_
  refine ak (ok_goto (off := (-122)) (by decide) (by decide +kernel)) ?_
  refine ak (ok_goto (off := (-134)) (by decide) (by decide +kernel)) ?_
  refine ak (ok_aload_n (k := 0) rfl (by decide +kernel)) ?_
  refine ak (ok_get (k := 5) ck11 kd40 (by decide) (fun _ _ _ => rfl) (vf_40_5 hsd) tw1247 (by decide +kernel)) ?_
  refine ak (ok_iload_n (k := 2) rfl (by decide +kernel)) ?_
  refine ak (ok_iald kd46 (by decide) (by decide +kernel)) ?_
  refine ak (ok_ireturn rfl (by decide +kernel)) ?_
  exact trivial
def KK_farOf_41 (j32 : Int32 → Int32 → Mem → Option (Int32 × Mem)) (j41 : Int32 → Int32 → Int32 → Mem → Option (Int32 × Mem)) : Jm (Int32 × Mem) := fun t als st M =>
  if t = 32 then (match als, st with
  | [.inr (.inr (.inl (al0, bl0, cl0))), _, .inl x2, .inl x3, _, _, _, _, _], [] => if al0 = 40 ∧ bl0 = 0 ∧ cl0 = 0 then j32 x2 x3 M else none
  | _, _ => none) else
  if t = 41 then (match als, st with
  | [.inr (.inr (.inl (al0, bl0, cl0))), _, .inl x2, .inl x3, .inl x4, _, _, _, _], [] => if al0 = 40 ∧ bl0 = 0 ∧ cl0 = 0 then j41 x2 x3 x4 M else none
  | _, _ => none) else
  none
set_option maxRecDepth 1000000 in
theorem eK_farOf_41 (j32 : Int32 → Int32 → Mem → Option (Int32 × Mem)) (j41 : Int32 → Int32 → Int32 → Mem → Option (Int32 × Mem)) (x2 : Int32) (x3 : Int32) (x4 : Int32) (M : Mem) (u1 u5 u6 u7 u8 : AV) : run (cK_farOf) (KK_farOf_41 j32 j41) rtI 400 (seek (cK_farOf) 41) [aR (40, 0, 0), u1, aI x2, aI x3, aI x4, u5, u6, u7, u8] [] M = mK_farOf_41b j32 j41 x2 x3 x4 M := id rfl
theorem lK_farOf_41 {E : EV} {l : Launch} {p : Program} {e : Env} {s : State} {m : MethodId} {args : Array Value} {below : List Frame} {meth : Method} {c : Code} (A : AllOK E l 1 "FreeLancesModel" prog_13_method_18_code 9 (some .int) outI (cK_farOf)) (C : Cx E p s m args meth c "FreeLancesModel" prog_13_method_18_code 9 (some .int)) {r32 : Int32 → Int32 → Mem → Option (Int32 × Mem)} (H32 : ∀ (x2 : Int32) (x3 : Int32) (M : Mem) (res : (Int32 × Mem)), r32 x2 x3 M = some res → ∀ (u1 u4 u5 u6 u7 u8 : AV), Wm E p l e 1 s m args below meth c 9 32 [aR (40, 0, 0), u1, aI x2, aI x3, u4, u5, u6, u7, u8] [] M (outI res).1 (outI res).2) : ∀ (n : Nat), ∀ (x2 : Int32) (x3 : Int32) (x4 : Int32) (M : Mem) (res : (Int32 × Mem)), mK_farOf_41 r32 n x2 x3 x4 M = some res → ∀ (u1 u5 u6 u7 u8 : AV), Wm E p l e 1 s m args below meth c 9 41 [aR (40, 0, 0), u1, aI x2, aI x3, aI x4, u5, u6, u7, u8] [] M (outI res).1 (outI res).2 := by
  intro n
  induction n with
  | zero => intro _ _ _ M res h; cases h
  | succ n ih =>
    intro x2 x3 x4 M res h u1 u5 u6 u7 u8
    refine run_at C A rfl hrtI (n := 400) ((eK_farOf_41 r32 (mK_farOf_41 r32 n) x2 x3 x4 M u1 u5 u6 u7 u8).trans h) ?_
    intro t als st M hk
    unfold KK_farOf_41 at hk
    split at hk
    · rename_i ht
      subst ht
      split at hk
      · split at hk
        · rename_i hc
          obtain ⟨rfl, rfl, rfl⟩ := hc
          exact H32 _ _ _ _ hk _ _ _ _ _ _
        · cases hk
      · cases hk
    split at hk
    · rename_i ht
      subst ht
      split at hk
      · split at hk
        · rename_i hc
          obtain ⟨rfl, rfl, rfl⟩ := hc
          exact ih _ _ _ _ _ hk _ _ _ _ _
        · cases hk
      · cases hk
    cases hk
def KK_farOf_32 (j41 : Int32 → Int32 → Int32 → Mem → Option (Int32 × Mem)) : Jm (Int32 × Mem) := fun t als st M =>
  if t = 41 then (match als, st with
  | [.inr (.inr (.inl (al0, bl0, cl0))), _, .inl x2, .inl x3, .inl x4, _, _, _, _], [] => if al0 = 40 ∧ bl0 = 0 ∧ cl0 = 0 then j41 x2 x3 x4 M else none
  | _, _ => none) else
  none
set_option maxRecDepth 1000000 in
theorem eK_farOf_32 (j41 : Int32 → Int32 → Int32 → Mem → Option (Int32 × Mem)) (x2 : Int32) (x3 : Int32) (M : Mem) (u1 u4 u5 u6 u7 u8 : AV) : run (cK_farOf) (KK_farOf_32 j41) rtI 400 (seek (cK_farOf) 32) [aR (40, 0, 0), u1, aI x2, aI x3, u4, u5, u6, u7, u8] [] M = mK_farOf_32b j41 x2 x3 M := id rfl
theorem lK_farOf_32 {E : EV} {l : Launch} {p : Program} {e : Env} {s : State} {m : MethodId} {args : Array Value} {below : List Frame} {meth : Method} {c : Code} (A : AllOK E l 1 "FreeLancesModel" prog_13_method_18_code 9 (some .int) outI (cK_farOf)) (C : Cx E p s m args meth c "FreeLancesModel" prog_13_method_18_code 9 (some .int)) : ∀ (n : Nat), ∀ (x2 : Int32) (x3 : Int32) (M : Mem) (res : (Int32 × Mem)), mK_farOf_32 n x2 x3 M = some res → ∀ (u1 u4 u5 u6 u7 u8 : AV), Wm E p l e 1 s m args below meth c 9 32 [aR (40, 0, 0), u1, aI x2, aI x3, u4, u5, u6, u7, u8] [] M (outI res).1 (outI res).2 := by
  intro n
  induction n with
  | zero => intro _ _ M res h; cases h
  | succ n ih =>
    intro x2 x3 M res h u1 u4 u5 u6 u7 u8
    refine run_at C A rfl hrtI (n := 400) ((eK_farOf_32 (mK_farOf_41 (mK_farOf_32 n) fuel) x2 x3 M u1 u4 u5 u6 u7 u8).trans h) ?_
    intro t als st M hk
    unfold KK_farOf_32 at hk
    split at hk
    · rename_i ht
      subst ht
      split at hk
      · split at hk
        · rename_i hc
          obtain ⟨rfl, rfl, rfl⟩ := hc
          exact lK_farOf_41 A C ih _ _ _ _ _ _ hk _ _ _ _ _
        · cases hk
      · cases hk
    cases hk
def KK_farOf_2 (j2 : Int32 → Int32 → Int32 → Mem → Option (Int32 × Mem)) (j32 : Int32 → Int32 → Mem → Option (Int32 × Mem)) : Jm (Int32 × Mem) := fun t als st M =>
  if t = 2 then (match als, st with
  | [.inr (.inr (.inl (al0, bl0, cl0))), .inl x1, .inl x2, .inl x3, _, _, _, _, _], [] => if al0 = 40 ∧ bl0 = 0 ∧ cl0 = 0 then j2 x1 x2 x3 M else none
  | _, _ => none) else
  if t = 32 then (match als, st with
  | [.inr (.inr (.inl (al0, bl0, cl0))), _, .inl x2, .inl x3, _, _, _, _, _], [] => if al0 = 40 ∧ bl0 = 0 ∧ cl0 = 0 then j32 x2 x3 M else none
  | _, _ => none) else
  none
set_option maxRecDepth 1000000 in
theorem eK_farOf_2 (j2 : Int32 → Int32 → Int32 → Mem → Option (Int32 × Mem)) (j32 : Int32 → Int32 → Mem → Option (Int32 × Mem)) (x1 : Int32) (x2 : Int32) (x3 : Int32) (M : Mem) (u4 u5 u6 u7 u8 : AV) : run (cK_farOf) (KK_farOf_2 j2 j32) rtI 400 (seek (cK_farOf) 2) [aR (40, 0, 0), aI x1, aI x2, aI x3, u4, u5, u6, u7, u8] [] M = mK_farOf_2b j2 j32 x1 x2 x3 M := id rfl
theorem lK_farOf_2 {E : EV} {l : Launch} {p : Program} {e : Env} {s : State} {m : MethodId} {args : Array Value} {below : List Frame} {meth : Method} {c : Code} (A : AllOK E l 1 "FreeLancesModel" prog_13_method_18_code 9 (some .int) outI (cK_farOf)) (C : Cx E p s m args meth c "FreeLancesModel" prog_13_method_18_code 9 (some .int)) : ∀ (n : Nat), ∀ (x1 : Int32) (x2 : Int32) (x3 : Int32) (M : Mem) (res : (Int32 × Mem)), mK_farOf_2 n x1 x2 x3 M = some res → ∀ (u4 u5 u6 u7 u8 : AV), Wm E p l e 1 s m args below meth c 9 2 [aR (40, 0, 0), aI x1, aI x2, aI x3, u4, u5, u6, u7, u8] [] M (outI res).1 (outI res).2 := by
  intro n
  induction n with
  | zero => intro _ _ _ M res h; cases h
  | succ n ih =>
    intro x1 x2 x3 M res h u4 u5 u6 u7 u8
    refine run_at C A rfl hrtI (n := 400) ((eK_farOf_2 (mK_farOf_2 n) (mK_farOf_32 fuel) x1 x2 x3 M u4 u5 u6 u7 u8).trans h) ?_
    intro t als st M hk
    unfold KK_farOf_2 at hk
    split at hk
    · rename_i ht
      subst ht
      split at hk
      · split at hk
        · rename_i hc
          obtain ⟨rfl, rfl, rfl⟩ := hc
          exact ih _ _ _ _ _ hk _ _ _ _ _
        · cases hk
      · cases hk
    split at hk
    · rename_i ht
      subst ht
      split at hk
      · split at hk
        · rename_i hc
          obtain ⟨rfl, rfl, rfl⟩ := hc
          exact lK_farOf_32 A C _ _ _ _ _ hk _ _ _ _ _ _
        · cases hk
      · cases hk
    cases hk
def KK_farOf (j2 : Int32 → Int32 → Int32 → Mem → Option (Int32 × Mem)) : Jm (Int32 × Mem) := fun t als st M =>
  if t = 2 then (match als, st with
  | [.inr (.inr (.inl (al0, bl0, cl0))), .inl x1, .inl x2, .inl x3, _, _, _, _, _], [] => if al0 = 40 ∧ bl0 = 0 ∧ cl0 = 0 then j2 x1 x2 x3 M else none
  | _, _ => none) else
  none
set_option maxRecDepth 1000000 in
theorem eK_farOf (j2 : Int32 → Int32 → Int32 → Mem → Option (Int32 × Mem)) (x1 : Int32) (x2 : Int32) (M : Mem) : run (cK_farOf) (KK_farOf j2) rtI 400 (seek (cK_farOf) 0) [aR (40, 0, 0), aI x1, aI x2, aU, aU, aU, aU, aU, aU] [] M = mK_farOfb j2 x1 x2 M := id rfl
theorem lK_farOf {E : EV} {l : Launch} {p : Program} {e : Env} {s : State} {m : MethodId} {args : Array Value} {below : List Frame} {meth : Method} {c : Code} (A : AllOK E l 1 "FreeLancesModel" prog_13_method_18_code 9 (some .int) outI (cK_farOf)) (C : Cx E p s m args meth c "FreeLancesModel" prog_13_method_18_code 9 (some .int)) : ∀ (x1 : Int32) (x2 : Int32) (M : Mem) (res : (Int32 × Mem)), mK_farOf x1 x2 M = some res → Wm E p l e 1 s m args below meth c 9 0 [aR (40, 0, 0), aI x1, aI x2, aU, aU, aU, aU, aU, aU] [] M (outI res).1 (outI res).2 := by
  intro x1 x2 M res h
  refine run_at C A rfl hrtI (n := 400) ((eK_farOf (mK_farOf_2 fuel) x1 x2 M).trans h) ?_
  intro t als st M hk
  unfold KK_farOf at hk
  split at hk
  · rename_i ht
    subst ht
    split at hk
    · split at hk
      · rename_i hc
        obtain ⟨rfl, rfl, rfl⟩ := hc
        exact lK_farOf_2 A C _ _ _ _ _ _ hk _ _ _ _ _
      · cases hk
    · cases hk
  cases hk
def dK_farOf {β : Type} : Den β := fun as M k => match as with
  | [.inr (.inr (.inl (al0, bl0, cl0))), .inl x1, .inl x2] => if al0 = 40 ∧ bl0 = 0 ∧ cl0 = 0 then (mK_farOf x1 x2 M).bind fun q => k (aI q.1) q.2 else none
  | _ => none
theorem wK_farOf {E : EV} (hsd : E.2.2.2 = 1) (l : Launch) (x1 : Int32) (x2 : Int32) (M : Mem) (q : (Int32 × Mem)) (hq : mK_farOf x1 x2 M = some q) : Con E l 1 yK_farOf prog_13_method_18_code 9 (some .int) [aR (40, 0, 0), aI x1, aI x2] M (outI q).1 (outI q).2 := by
  refine con_of iK_farOf (Nat.le_of_ble_eq_true rfl) ?_
  intro p e s m args below meth c C
  exact lK_farOf (oK_farOf hsd l) C x1 x2 M _ hq
theorem kK_farOf {E : EV} (hsd : E.2.2.2 = 1) (l : Launch) {β : Type} : DenOK E l 1 yK_farOf prog_13_method_18_code 9 (some .int) true (dK_farOf (β := β)) := by
  intro as M k res h
  unfold dK_farOf at h
  split at h
  ·
    split at h
    · rename_i hc
      obtain ⟨rfl, rfl, rfl⟩ := hc
      obtain ⟨q, hq, hk⟩ := Option.bind_eq_some_iff.mp h
      exact ⟨aI q.1, q.2, hk, rfl, wK_farOf hsd l _ _ M q hq⟩
    · cases h
  · cases h
theorem qK_farOf {β : Type} : RecOK 40 (dK_farOf (β := β)) := by
  intro as M k res h
  unfold dK_farOf at h
  split at h
  ·
    split at h
    · rename_i hc
      obtain ⟨rfl, rfl, rfl⟩ := hc
      exact ⟨_, _, _, rfl⟩
    · cases h
  · cases h
/-! ===== FreeLancesModel.far(II)I ===== -/
abbrev yK_far : MethodName := ⟨"FreeLancesModel", "far", "(II)I"⟩
theorem iK_far : MI yK_far prog_13_method_21_code 4 (some .int) 2 := ⟨tw1348, tw108, ⟨by decide, by decide⟩, by decide +kernel, by decide, by decide⟩
def cK_far : List (Ent (Int32 × Mem)) := [(false, 0, 1, sLdA 0),
  (false, 1, 1, sLdI 1),
  (false, 2, 3, sInv 2 true dK_isTown),
  (false, 5, 3, sIfEq 16),
  (false, 8, 1, sLdA 0),
  (false, 9, 1, sLdI 2),
  (false, 10, 3, sInv 2 true dK_isTown),
  (false, 13, 3, sIfNe 22),
  (false, 16, 1, sLdA 0),
  (false, 17, 1, sC 1),
  (false, 18, 3, sInv 2 true dK_finds),
  (false, 21, 1, sRetI),
  (false, 22, 1, sLdA 0),
  (false, 23, 1, sLdI 1),
  (false, 24, 1, sLdI 2),
  (false, 25, 3, sInv 3 true dK_farOf),
  (false, 28, 1, sStI 3),
  (false, 29, 1, sLdI 3),
  (false, 30, 3, sIfGe 41),
  (false, 33, 1, sLdA 0),
  (false, 34, 1, sC 2),
  (false, 35, 3, sInv 2 true dK_finds),
  (false, 38, 3, sGoto 42),
  (false, 41, 1, sLdI 3),
  (false, 42, 1, sRetI)]
theorem oK_far {E : EV} (hsd : E.2.2.2 = 1) (l : Launch) : AllOK E l 3 "FreeLancesModel" prog_13_method_21_code 4 (some .int) outI (cK_far) := by
  refine ak (ok_aload_n (k := 0) rfl (by decide +kernel)) ?_
  refine ak (ok_iload_n (k := 1) rfl (by decide +kernel)) ?_
  refine ak (ok_invV (r := 40) (kK_isTown hsd l) qK_isTown ck11 kd40 iK_isTown tw1343 tw38 (by decide) tw1341 (by decide +kernel)) ?_
  refine ak (ok_if_eq (off := 11) (by decide) (by decide +kernel)) ?_
  refine ak (ok_aload_n (k := 0) rfl (by decide +kernel)) ?_
  refine ak (ok_iload_n (k := 2) rfl (by decide +kernel)) ?_
  refine ak (ok_invV (r := 40) (kK_isTown hsd l) qK_isTown ck11 kd40 iK_isTown tw1343 tw38 (by decide) tw1341 (by decide +kernel)) ?_
  refine ak (ok_if_ne (off := 9) (by decide) (by decide +kernel)) ?_
  refine ak (ok_aload_n (k := 0) rfl (by decide +kernel)) ?_
  refine ak (ok_iconst (n := 1) (by decide) (by decide +kernel)) ?_
  refine ak (ok_invV (r := 40) (kK_finds hsd l) qK_finds ck11 kd40 iK_finds tw1334 tw37 (by decide) tw1332 (by decide +kernel)) ?_
  refine ak (ok_ireturn rfl (by decide +kernel)) ?_
  refine ak (ok_aload_n (k := 0) rfl (by decide +kernel)) ?_
  refine ak (ok_iload_n (k := 1) rfl (by decide +kernel)) ?_
  refine ak (ok_iload_n (k := 2) rfl (by decide +kernel)) ?_
  refine ak (ok_invV (r := 40) (kK_farOf hsd l) qK_farOf ck11 kd40 iK_farOf tw1351 tw39 (by decide) tw1349 (by decide +kernel)) ?_
  refine ak (ok_istore_n (k := 3) rfl (by decide) (by decide +kernel)) ?_
  refine ak (ok_iload_n (k := 3) rfl (by decide +kernel)) ?_
  refine ak (ok_if_ge (off := 11) (by decide) (by decide +kernel)) ?_
  refine ak (ok_aload_n (k := 0) rfl (by decide +kernel)) ?_
  refine ak (ok_iconst (n := 2) (by decide) (by decide +kernel)) ?_
  refine ak (ok_invV (r := 40) (kK_finds hsd l) qK_finds ck11 kd40 iK_finds tw1334 tw37 (by decide) tw1332 (by decide +kernel)) ?_
  refine ak (ok_goto (off := 4) (by decide) (by decide +kernel)) ?_
  refine ak (ok_iload_n (k := 3) rfl (by decide +kernel)) ?_
  refine ak (ok_ireturn rfl (by decide +kernel)) ?_
  exact trivial
set_option maxRecDepth 1000000 in
theorem eK_far (x1 : Int32) (x2 : Int32) (M : Mem) : run (cK_far) (fun _ _ _ _ => none) rtI 400 (seek (cK_far) 0) [aR (40, 0, 0), aI x1, aI x2, aU] [] M = mK_far x1 x2 M := id rfl
theorem lK_far {E : EV} {l : Launch} {p : Program} {e : Env} {s : State} {m : MethodId} {args : Array Value} {below : List Frame} {meth : Method} {c : Code} (A : AllOK E l 3 "FreeLancesModel" prog_13_method_21_code 4 (some .int) outI (cK_far)) (C : Cx E p s m args meth c "FreeLancesModel" prog_13_method_21_code 4 (some .int)) : ∀ (x1 : Int32) (x2 : Int32) (M : Mem) (res : (Int32 × Mem)), mK_far x1 x2 M = some res → Wm E p l e 3 s m args below meth c 4 0 [aR (40, 0, 0), aI x1, aI x2, aU] [] M (outI res).1 (outI res).2 := by
  intro x1 x2 M res h
  refine run_at C A rfl hrtI (n := 400) ((eK_far x1 x2 M).trans h) ?_
  intro t als st M hk; cases hk
def dK_far {β : Type} : Den β := fun as M k => match as with
  | [.inr (.inr (.inl (al0, bl0, cl0))), .inl x1, .inl x2] => if al0 = 40 ∧ bl0 = 0 ∧ cl0 = 0 then (mK_far x1 x2 M).bind fun q => k (aI q.1) q.2 else none
  | _ => none
theorem wK_far {E : EV} (hsd : E.2.2.2 = 1) (l : Launch) (x1 : Int32) (x2 : Int32) (M : Mem) (q : (Int32 × Mem)) (hq : mK_far x1 x2 M = some q) : Con E l 3 yK_far prog_13_method_21_code 4 (some .int) [aR (40, 0, 0), aI x1, aI x2] M (outI q).1 (outI q).2 := by
  refine con_of iK_far (Nat.le_of_ble_eq_true rfl) ?_
  intro p e s m args below meth c C
  exact lK_far (oK_far hsd l) C x1 x2 M _ hq
theorem kK_far {E : EV} (hsd : E.2.2.2 = 1) (l : Launch) {β : Type} : DenOK E l 3 yK_far prog_13_method_21_code 4 (some .int) true (dK_far (β := β)) := by
  intro as M k res h
  unfold dK_far at h
  split at h
  ·
    split at h
    · rename_i hc
      obtain ⟨rfl, rfl, rfl⟩ := hc
      obtain ⟨q, hq, hk⟩ := Option.bind_eq_some_iff.mp h
      exact ⟨aI q.1, q.2, hk, rfl, wK_far hsd l _ _ M q hq⟩
    · cases h
  · cases h
theorem qK_far {β : Type} : RecOK 40 (dK_far (β := β)) := by
  intro as M k res h
  unfold dK_far at h
  split at h
  ·
    split at h
    · rename_i hc
      obtain ⟨rfl, rfl, rfl⟩ := hc
      exact ⟨_, _, _, rfl⟩
    · cases h
  · cases h
/-! ===== FreeLancesModel.ofTown(II)I ===== -/
abbrev yK_ofTown : MethodName := ⟨"FreeLancesModel", "ofTown", "(II)I"⟩
theorem iK_ofTown : MI yK_ofTown prog_13_method_10_code 3 (some .int) 2 := ⟨tw1360, tw108, ⟨by decide, by decide⟩, by decide +kernel, by decide, by decide⟩
def cK_ofTown : List (Ent (Int32 × Mem)) := [(false, 0, 1, sLdA 0),
  (false, 1, 3, sGet 40 (fun w i M => aR (41, 0, 0))),
  (false, 4, 2, sC 20),
  (false, 6, 1, sC 4),
  (false, 7, 1, sLdI 1),
  (false, 8, 1, sBin (fun x y => x * y)),
  (false, 9, 1, sBin (fun x y => x + y)),
  (false, 10, 1, sLdI 2),
  (false, 11, 1, sBin (fun x y => x + y)),
  (false, 12, 1, sIald 41 1502),
  (false, 13, 1, sRetI)]
theorem oK_ofTown {E : EV} (hsd : E.2.2.2 = 1) (l : Launch) : AllOK E l 1 "FreeLancesModel" prog_13_method_10_code 3 (some .int) outI (cK_ofTown) := by
  refine ak (ok_aload_n (k := 0) rfl (by decide +kernel)) ?_
  refine ak (ok_get (k := 0) ck11 kd40 (by decide) (fun _ _ _ => rfl) (vf_40_0 hsd) tw1242 (by decide +kernel)) ?_
  refine ak (ok_bipush (n := 20) (by decide) (by decide +kernel)) ?_
  refine ak (ok_iconst (n := 4) (by decide) (by decide +kernel)) ?_
  refine ak (ok_iload_n (k := 1) rfl (by decide +kernel)) ?_
  refine ak (ok_imul (by decide +kernel)) ?_
  refine ak (ok_iadd (by decide +kernel)) ?_
  refine ak (ok_iload_n (k := 2) rfl (by decide +kernel)) ?_
  refine ak (ok_iadd (by decide +kernel)) ?_
  refine ak (ok_iald kd41 (by decide) (by decide +kernel)) ?_
  refine ak (ok_ireturn rfl (by decide +kernel)) ?_
  exact trivial
set_option maxRecDepth 1000000 in
theorem eK_ofTown (x1 : Int32) (x2 : Int32) (M : Mem) : run (cK_ofTown) (fun _ _ _ _ => none) rtI 400 (seek (cK_ofTown) 0) [aR (40, 0, 0), aI x1, aI x2] [] M = mK_ofTown x1 x2 M := id rfl
theorem lK_ofTown {E : EV} {l : Launch} {p : Program} {e : Env} {s : State} {m : MethodId} {args : Array Value} {below : List Frame} {meth : Method} {c : Code} (A : AllOK E l 1 "FreeLancesModel" prog_13_method_10_code 3 (some .int) outI (cK_ofTown)) (C : Cx E p s m args meth c "FreeLancesModel" prog_13_method_10_code 3 (some .int)) : ∀ (x1 : Int32) (x2 : Int32) (M : Mem) (res : (Int32 × Mem)), mK_ofTown x1 x2 M = some res → Wm E p l e 1 s m args below meth c 3 0 [aR (40, 0, 0), aI x1, aI x2] [] M (outI res).1 (outI res).2 := by
  intro x1 x2 M res h
  refine run_at C A rfl hrtI (n := 400) ((eK_ofTown x1 x2 M).trans h) ?_
  intro t als st M hk; cases hk
def dK_ofTown {β : Type} : Den β := fun as M k => match as with
  | [.inr (.inr (.inl (al0, bl0, cl0))), .inl x1, .inl x2] => if al0 = 40 ∧ bl0 = 0 ∧ cl0 = 0 then (mK_ofTown x1 x2 M).bind fun q => k (aI q.1) q.2 else none
  | _ => none
theorem wK_ofTown {E : EV} (hsd : E.2.2.2 = 1) (l : Launch) (x1 : Int32) (x2 : Int32) (M : Mem) (q : (Int32 × Mem)) (hq : mK_ofTown x1 x2 M = some q) : Con E l 1 yK_ofTown prog_13_method_10_code 3 (some .int) [aR (40, 0, 0), aI x1, aI x2] M (outI q).1 (outI q).2 := by
  refine con_of iK_ofTown (Nat.le_of_ble_eq_true rfl) ?_
  intro p e s m args below meth c C
  exact lK_ofTown (oK_ofTown hsd l) C x1 x2 M _ hq
theorem kK_ofTown {E : EV} (hsd : E.2.2.2 = 1) (l : Launch) {β : Type} : DenOK E l 1 yK_ofTown prog_13_method_10_code 3 (some .int) true (dK_ofTown (β := β)) := by
  intro as M k res h
  unfold dK_ofTown at h
  split at h
  ·
    split at h
    · rename_i hc
      obtain ⟨rfl, rfl, rfl⟩ := hc
      obtain ⟨q, hq, hk⟩ := Option.bind_eq_some_iff.mp h
      exact ⟨aI q.1, q.2, hk, rfl, wK_ofTown hsd l _ _ M q hq⟩
    · cases h
  · cases h
theorem qK_ofTown {β : Type} : RecOK 40 (dK_ofTown (β := β)) := by
  intro as M k res h
  unfold dK_ofTown at h
  split at h
  ·
    split at h
    · rename_i hc
      obtain ⟨rfl, rfl, rfl⟩ := hc
      exact ⟨_, _, _, rfl⟩
    · cases h
  · cases h
/-! ===== FreeLancesModel.own(II)I ===== -/
abbrev yK_own : MethodName := ⟨"FreeLancesModel", "own", "(II)I"⟩
theorem iK_own : MI yK_own prog_13_method_12_code 3 (some .int) 2 := ⟨tw1364, tw108, ⟨by decide, by decide⟩, by decide +kernel, by decide, by decide⟩
def cK_own : List (Ent (Int32 × Mem)) := [(false, 0, 1, sLdA 0),
  (false, 1, 3, sGet 40 (fun w i M => aR (41, 0, 0))),
  (false, 4, 2, sC 100),
  (false, 6, 2, sC 24),
  (false, 8, 1, sLdI 1),
  (false, 9, 1, sBin (fun x y => x * y)),
  (false, 10, 1, sBin (fun x y => x + y)),
  (false, 11, 1, sLdI 2),
  (false, 12, 1, sBin (fun x y => x + y)),
  (false, 13, 1, sIald 41 1502),
  (false, 14, 1, sRetI)]
theorem oK_own {E : EV} (hsd : E.2.2.2 = 1) (l : Launch) : AllOK E l 1 "FreeLancesModel" prog_13_method_12_code 3 (some .int) outI (cK_own) := by
  refine ak (ok_aload_n (k := 0) rfl (by decide +kernel)) ?_
  refine ak (ok_get (k := 0) ck11 kd40 (by decide) (fun _ _ _ => rfl) (vf_40_0 hsd) tw1242 (by decide +kernel)) ?_
  refine ak (ok_bipush (n := 100) (by decide) (by decide +kernel)) ?_
  refine ak (ok_bipush (n := 24) (by decide) (by decide +kernel)) ?_
  refine ak (ok_iload_n (k := 1) rfl (by decide +kernel)) ?_
  refine ak (ok_imul (by decide +kernel)) ?_
  refine ak (ok_iadd (by decide +kernel)) ?_
  refine ak (ok_iload_n (k := 2) rfl (by decide +kernel)) ?_
  refine ak (ok_iadd (by decide +kernel)) ?_
  refine ak (ok_iald kd41 (by decide) (by decide +kernel)) ?_
  refine ak (ok_ireturn rfl (by decide +kernel)) ?_
  exact trivial
set_option maxRecDepth 1000000 in
theorem eK_own (x1 : Int32) (x2 : Int32) (M : Mem) : run (cK_own) (fun _ _ _ _ => none) rtI 400 (seek (cK_own) 0) [aR (40, 0, 0), aI x1, aI x2] [] M = mK_own x1 x2 M := id rfl
theorem lK_own {E : EV} {l : Launch} {p : Program} {e : Env} {s : State} {m : MethodId} {args : Array Value} {below : List Frame} {meth : Method} {c : Code} (A : AllOK E l 1 "FreeLancesModel" prog_13_method_12_code 3 (some .int) outI (cK_own)) (C : Cx E p s m args meth c "FreeLancesModel" prog_13_method_12_code 3 (some .int)) : ∀ (x1 : Int32) (x2 : Int32) (M : Mem) (res : (Int32 × Mem)), mK_own x1 x2 M = some res → Wm E p l e 1 s m args below meth c 3 0 [aR (40, 0, 0), aI x1, aI x2] [] M (outI res).1 (outI res).2 := by
  intro x1 x2 M res h
  refine run_at C A rfl hrtI (n := 400) ((eK_own x1 x2 M).trans h) ?_
  intro t als st M hk; cases hk
def dK_own {β : Type} : Den β := fun as M k => match as with
  | [.inr (.inr (.inl (al0, bl0, cl0))), .inl x1, .inl x2] => if al0 = 40 ∧ bl0 = 0 ∧ cl0 = 0 then (mK_own x1 x2 M).bind fun q => k (aI q.1) q.2 else none
  | _ => none
theorem wK_own {E : EV} (hsd : E.2.2.2 = 1) (l : Launch) (x1 : Int32) (x2 : Int32) (M : Mem) (q : (Int32 × Mem)) (hq : mK_own x1 x2 M = some q) : Con E l 1 yK_own prog_13_method_12_code 3 (some .int) [aR (40, 0, 0), aI x1, aI x2] M (outI q).1 (outI q).2 := by
  refine con_of iK_own (Nat.le_of_ble_eq_true rfl) ?_
  intro p e s m args below meth c C
  exact lK_own (oK_own hsd l) C x1 x2 M _ hq
theorem kK_own {E : EV} (hsd : E.2.2.2 = 1) (l : Launch) {β : Type} : DenOK E l 1 yK_own prog_13_method_12_code 3 (some .int) true (dK_own (β := β)) := by
  intro as M k res h
  unfold dK_own at h
  split at h
  ·
    split at h
    · rename_i hc
      obtain ⟨rfl, rfl, rfl⟩ := hc
      obtain ⟨q, hq, hk⟩ := Option.bind_eq_some_iff.mp h
      exact ⟨aI q.1, q.2, hk, rfl, wK_own hsd l _ _ M q hq⟩
    · cases h
  · cases h
theorem qK_own {β : Type} : RecOK 40 (dK_own (β := β)) := by
  intro as M k res h
  unfold dK_own at h
  split at h
  ·
    split at h
    · rename_i hc
      obtain ⟨rfl, rfl, rfl⟩ := hc
      exact ⟨_, _, _, rfl⟩
    · cases h
  · cases h
/-! ===== FreeLancesModel.townIs(II)I ===== -/
abbrev yK_townIs : MethodName := ⟨"FreeLancesModel", "townIs", "(II)I"⟩
theorem iK_townIs : MI yK_townIs prog_13_method_22_code 5 (some .int) 2 := ⟨tw1356, tw108, ⟨by decide, by decide⟩, by decide +kernel, by decide, by decide⟩
def cK_townIs : List (Ent (Int32 × Mem)) := [(false, 0, 1, sLdA 0),
  (false, 1, 1, sLdI 1),
  (false, 2, 3, sInv 2 true dK_isTown),
  (false, 5, 3, sIfEq 17),
  (false, 8, 1, sLdI 2),
  (false, 9, 1, sC 0),
  (false, 10, 1, sC 4),
  (false, 11, 3, sInv 3 true dK_in),
  (false, 14, 3, sIfNe 23),
  (false, 17, 1, sLdA 0),
  (false, 18, 1, sC 1),
  (false, 19, 3, sInv 2 true dK_finds),
  (false, 22, 1, sRetI),
  (false, 23, 1, sLdI 2),
  (false, 24, 1, sC 4),
  (false, 25, 3, sCmpGe 35),
  (false, 28, 1, sLdA 0),
  (false, 29, 1, sLdI 1),
  (false, 30, 1, sLdI 2),
  (false, 31, 3, sInv 3 true dK_ofTown),
  (false, 34, 1, sRetI),
  (false, 35, 1, sC 0),
  (false, 36, 1, sStI 3),
  (false, 37, 1, sC 0),
  (false, 38, 2, sStI 4),
  (true, 40, 2, sLdI 4),
  (false, 42, 1, sLdA 0),
  (false, 43, 3, sGet 40 (fun w i M => aR (41, 0, 0))),
  (false, 46, 1, sC 2),
  (false, 47, 1, sIald 41 1502),
  (false, 48, 3, sCmpGe 79),
  (false, 51, 1, sLdI 3),
  (false, 52, 1, sLdA 0),
  (false, 53, 2, sLdI 4),
  (false, 55, 1, sC 2),
  (false, 56, 3, sInv 3 true dK_own),
  (false, 59, 1, sLdI 1),
  (false, 60, 3, sCmpNe 70),
  (false, 63, 1, sC 1),
  (false, 64, 2, sLdI 4),
  (false, 66, 1, sBin (fun x y => x <<< (y &&& 31))),
  (false, 67, 3, sGoto 71),
  (false, 70, 1, sC 0),
  (false, 71, 1, sBin (fun x y => x ||| y)),
  (false, 72, 1, sStI 3),
  (false, 73, 3, sInc 4 1),
  (false, 76, 3, sGoto 40),
  (false, 79, 1, sLdI 3),
  (false, 80, 1, sRetI)]
theorem oK_townIs {E : EV} (hsd : E.2.2.2 = 1) (l : Launch) : AllOK E l 3 "FreeLancesModel" prog_13_method_22_code 5 (some .int) outI (cK_townIs) := by
  refine ak (ok_aload_n (k := 0) rfl (by decide +kernel)) ?_
  refine ak (ok_iload_n (k := 1) rfl (by decide +kernel)) ?_
  refine ak (ok_invV (r := 40) (kK_isTown hsd l) qK_isTown ck11 kd40 iK_isTown tw1343 tw38 (by decide) tw1341 (by decide +kernel)) ?_
  refine ak (ok_if_eq (off := 12) (by decide) (by decide +kernel)) ?_
  refine ak (ok_iload_n (k := 2) rfl (by decide +kernel)) ?_
  refine ak (ok_iconst (n := 0) (by decide) (by decide +kernel)) ?_
  refine ak (ok_iconst (n := 4) (by decide) (by decide +kernel)) ?_
  refine ak (ok_invS (kK_in hsd l) iK_in tw1330 (by decide) tw1329 (by decide +kernel)) ?_
  refine ak (ok_if_ne (off := 9) (by decide) (by decide +kernel)) ?_
  refine ak (ok_aload_n (k := 0) rfl (by decide +kernel)) ?_
  refine ak (ok_iconst (n := 1) (by decide) (by decide +kernel)) ?_
  refine ak (ok_invV (r := 40) (kK_finds hsd l) qK_finds ck11 kd40 iK_finds tw1334 tw37 (by decide) tw1332 (by decide +kernel)) ?_
  refine ak (ok_ireturn rfl (by decide +kernel)) ?_
  refine ak (ok_iload_n (k := 2) rfl (by decide +kernel)) ?_
  refine ak (ok_iconst (n := 4) (by decide) (by decide +kernel)) ?_
  refine ak (ok_icmp_ge (off := 10) (by decide) (by decide +kernel)) ?_
  refine ak (ok_aload_n (k := 0) rfl (by decide +kernel)) ?_
  refine ak (ok_iload_n (k := 1) rfl (by decide +kernel)) ?_
  refine ak (ok_iload_n (k := 2) rfl (by decide +kernel)) ?_
  refine ak (ok_invV (r := 40) (kK_ofTown hsd l) qK_ofTown ck11 kd40 iK_ofTown tw1359 tw40 (by decide) tw1357 (by decide +kernel)) ?_
  refine ak (ok_ireturn rfl (by decide +kernel)) ?_
  refine ak (ok_iconst (n := 0) (by decide) (by decide +kernel)) ?_
  refine ak (ok_istore_n (k := 3) rfl (by decide) (by decide +kernel)) ?_
  refine ak (ok_iconst (n := 0) (by decide) (by decide +kernel)) ?_
  refine ak (ok_istore (by decide) (by decide +kernel)) ?_
  refine ak (ok_iload (by decide +kernel)) ?_
  refine ak (ok_aload_n (k := 0) rfl (by decide +kernel)) ?_
  refine ak (ok_get (k := 0) ck11 kd40 (by decide) (fun _ _ _ => rfl) (vf_40_0 hsd) tw1242 (by decide +kernel)) ?_
  refine ak (ok_iconst (n := 2) (by decide) (by decide +kernel)) ?_
  refine ak (ok_iald kd41 (by decide) (by decide +kernel)) ?_
  refine ak (ok_icmp_ge (off := 31) (by decide) (by decide +kernel)) ?_
  refine ak (ok_iload_n (k := 3) rfl (by decide +kernel)) ?_
  refine ak (ok_aload_n (k := 0) rfl (by decide +kernel)) ?_
  refine ak (ok_iload (by decide +kernel)) ?_
  refine ak (ok_iconst (n := 2) (by decide) (by decide +kernel)) ?_
  refine ak (ok_invV (r := 40) (kK_own hsd l) qK_own ck11 kd40 iK_own tw1363 tw41 (by decide) tw1361 (by decide +kernel)) ?_
  refine ak (ok_iload_n (k := 1) rfl (by decide +kernel)) ?_
  refine ak (ok_icmp_ne (off := 10) (by decide) (by decide +kernel)) ?_
  refine ak (ok_iconst (n := 1) (by decide) (by decide +kernel)) ?_
  refine ak (ok_iload (by decide +kernel)) ?_
  refine ak (ok_ishl (by decide +kernel)) ?_
  refine ak (ok_goto (off := 4) (by decide) (by decide +kernel)) ?_
  refine ak (ok_iconst (n := 0) (by decide) (by decide +kernel)) ?_
  refine ak (ok_ior (by decide +kernel)) ?_
  refine ak (ok_istore_n (k := 3) rfl (by decide) (by decide +kernel)) ?_
  refine ak (ok_iinc (n := 1) (by decide) (by decide) (by decide +kernel)) ?_
  refine ak (ok_goto (off := (-36)) (by decide) (by decide +kernel)) ?_
  refine ak (ok_iload_n (k := 3) rfl (by decide +kernel)) ?_
  refine ak (ok_ireturn rfl (by decide +kernel)) ?_
  exact trivial
def KK_townIs_40 (j40 : Int32 → Int32 → Int32 → Mem → Option (Int32 × Mem)) : Jm (Int32 × Mem) := fun t als st M =>
  if t = 40 then (match als, st with
  | [.inr (.inr (.inl (al0, bl0, cl0))), .inl x1, _, .inl x3, .inl x4], [] => if al0 = 40 ∧ bl0 = 0 ∧ cl0 = 0 then j40 x1 x3 x4 M else none
  | _, _ => none) else
  none
set_option maxRecDepth 1000000 in
theorem eK_townIs_40 (j40 : Int32 → Int32 → Int32 → Mem → Option (Int32 × Mem)) (x1 : Int32) (x3 : Int32) (x4 : Int32) (M : Mem) (u2 : AV) : run (cK_townIs) (KK_townIs_40 j40) rtI 400 (seek (cK_townIs) 40) [aR (40, 0, 0), aI x1, u2, aI x3, aI x4] [] M = mK_townIs_40b j40 x1 x3 x4 M := id rfl
theorem lK_townIs_40 {E : EV} {l : Launch} {p : Program} {e : Env} {s : State} {m : MethodId} {args : Array Value} {below : List Frame} {meth : Method} {c : Code} (A : AllOK E l 3 "FreeLancesModel" prog_13_method_22_code 5 (some .int) outI (cK_townIs)) (C : Cx E p s m args meth c "FreeLancesModel" prog_13_method_22_code 5 (some .int)) : ∀ (n : Nat), ∀ (x1 : Int32) (x3 : Int32) (x4 : Int32) (M : Mem) (res : (Int32 × Mem)), mK_townIs_40 n x1 x3 x4 M = some res → ∀ (u2 : AV), Wm E p l e 3 s m args below meth c 5 40 [aR (40, 0, 0), aI x1, u2, aI x3, aI x4] [] M (outI res).1 (outI res).2 := by
  intro n
  induction n with
  | zero => intro _ _ _ M res h; cases h
  | succ n ih =>
    intro x1 x3 x4 M res h u2
    refine run_at C A rfl hrtI (n := 400) ((eK_townIs_40 (mK_townIs_40 n) x1 x3 x4 M u2).trans h) ?_
    intro t als st M hk
    unfold KK_townIs_40 at hk
    split at hk
    · rename_i ht
      subst ht
      split at hk
      · split at hk
        · rename_i hc
          obtain ⟨rfl, rfl, rfl⟩ := hc
          exact ih _ _ _ _ _ hk _
        · cases hk
      · cases hk
    cases hk
def KK_townIs (j40 : Int32 → Int32 → Int32 → Mem → Option (Int32 × Mem)) : Jm (Int32 × Mem) := fun t als st M =>
  if t = 40 then (match als, st with
  | [.inr (.inr (.inl (al0, bl0, cl0))), .inl x1, _, .inl x3, .inl x4], [] => if al0 = 40 ∧ bl0 = 0 ∧ cl0 = 0 then j40 x1 x3 x4 M else none
  | _, _ => none) else
  none
set_option maxRecDepth 1000000 in
theorem eK_townIs (j40 : Int32 → Int32 → Int32 → Mem → Option (Int32 × Mem)) (x1 : Int32) (x2 : Int32) (M : Mem) : run (cK_townIs) (KK_townIs j40) rtI 400 (seek (cK_townIs) 0) [aR (40, 0, 0), aI x1, aI x2, aU, aU] [] M = mK_townIsb j40 x1 x2 M := id rfl
theorem lK_townIs {E : EV} {l : Launch} {p : Program} {e : Env} {s : State} {m : MethodId} {args : Array Value} {below : List Frame} {meth : Method} {c : Code} (A : AllOK E l 3 "FreeLancesModel" prog_13_method_22_code 5 (some .int) outI (cK_townIs)) (C : Cx E p s m args meth c "FreeLancesModel" prog_13_method_22_code 5 (some .int)) : ∀ (x1 : Int32) (x2 : Int32) (M : Mem) (res : (Int32 × Mem)), mK_townIs x1 x2 M = some res → Wm E p l e 3 s m args below meth c 5 0 [aR (40, 0, 0), aI x1, aI x2, aU, aU] [] M (outI res).1 (outI res).2 := by
  intro x1 x2 M res h
  refine run_at C A rfl hrtI (n := 400) ((eK_townIs (mK_townIs_40 fuel) x1 x2 M).trans h) ?_
  intro t als st M hk
  unfold KK_townIs at hk
  split at hk
  · rename_i ht
    subst ht
    split at hk
    · split at hk
      · rename_i hc
        obtain ⟨rfl, rfl, rfl⟩ := hc
        exact lK_townIs_40 A C _ _ _ _ _ _ hk _
      · cases hk
    · cases hk
  cases hk
def dK_townIs {β : Type} : Den β := fun as M k => match as with
  | [.inr (.inr (.inl (al0, bl0, cl0))), .inl x1, .inl x2] => if al0 = 40 ∧ bl0 = 0 ∧ cl0 = 0 then (mK_townIs x1 x2 M).bind fun q => k (aI q.1) q.2 else none
  | _ => none
theorem wK_townIs {E : EV} (hsd : E.2.2.2 = 1) (l : Launch) (x1 : Int32) (x2 : Int32) (M : Mem) (q : (Int32 × Mem)) (hq : mK_townIs x1 x2 M = some q) : Con E l 3 yK_townIs prog_13_method_22_code 5 (some .int) [aR (40, 0, 0), aI x1, aI x2] M (outI q).1 (outI q).2 := by
  refine con_of iK_townIs (Nat.le_of_ble_eq_true rfl) ?_
  intro p e s m args below meth c C
  exact lK_townIs (oK_townIs hsd l) C x1 x2 M _ hq
theorem kK_townIs {E : EV} (hsd : E.2.2.2 = 1) (l : Launch) {β : Type} : DenOK E l 3 yK_townIs prog_13_method_22_code 5 (some .int) true (dK_townIs (β := β)) := by
  intro as M k res h
  unfold dK_townIs at h
  split at h
  ·
    split at h
    · rename_i hc
      obtain ⟨rfl, rfl, rfl⟩ := hc
      obtain ⟨q, hq, hk⟩ := Option.bind_eq_some_iff.mp h
      exact ⟨aI q.1, q.2, hk, rfl, wK_townIs hsd l _ _ M q hq⟩
    · cases h
  · cases h
theorem qK_townIs {β : Type} : RecOK 40 (dK_townIs (β := β)) := by
  intro as M k res h
  unfold dK_townIs at h
  split at h
  ·
    split at h
    · rename_i hc
      obtain ⟨rfl, rfl, rfl⟩ := hc
      exact ⟨_, _, _, rfl⟩
    · cases h
  · cases h
/-! ===== FreeLancesModel.wall(III)I ===== -/
abbrev yK_wall : MethodName := ⟨"FreeLancesModel", "wall", "(III)I"⟩
theorem iK_wall : MI yK_wall prog_13_method_23_code 4 (some .int) 3 := ⟨tw1368, tw108, ⟨by decide, by decide⟩, by decide +kernel, by decide, by decide⟩
def cK_wall : List (Ent (Int32 × Mem)) := [(false, 0, 1, sLdA 0),
  (false, 1, 1, sLdI 1),
  (false, 2, 3, sInv 2 true dK_isTown),
  (false, 5, 3, sIfEq 29),
  (false, 8, 1, sLdI 2),
  (false, 9, 1, sC 0),
  (false, 10, 3, sC 999),
  (false, 13, 3, sInv 3 true dK_in),
  (false, 16, 3, sIfEq 29),
  (false, 19, 1, sLdI 3),
  (false, 20, 1, sC 0),
  (false, 21, 2, sC 99),
  (false, 23, 3, sInv 3 true dK_in),
  (false, 26, 3, sIfNe 35),
  (false, 29, 1, sLdA 0),
  (false, 30, 1, sC 1),
  (false, 31, 3, sInv 2 true dK_finds),
  (false, 34, 1, sRetI),
  (false, 35, 1, sLdA 0),
  (false, 36, 3, sGet 40 (fun w i M => aR (41, 0, 0))),
  (false, 39, 2, sC 20),
  (false, 41, 1, sC 4),
  (false, 42, 1, sLdI 1),
  (false, 43, 1, sBin (fun x y => x * y)),
  (false, 44, 1, sBin (fun x y => x + y)),
  (false, 45, 1, sC 2),
  (false, 46, 1, sBin (fun x y => x + y)),
  (false, 47, 1, sLdI 2),
  (false, 48, 1, sIast 41 1502),
  (false, 49, 1, sLdA 0),
  (false, 50, 3, sGet 40 (fun w i M => aR (41, 0, 0))),
  (false, 53, 2, sC 20),
  (false, 55, 1, sC 4),
  (false, 56, 1, sLdI 1),
  (false, 57, 1, sBin (fun x y => x * y)),
  (false, 58, 1, sBin (fun x y => x + y)),
  (false, 59, 1, sC 3),
  (false, 60, 1, sBin (fun x y => x + y)),
  (false, 61, 1, sLdI 3),
  (false, 62, 1, sIast 41 1502),
  (false, 63, 1, sC 1),
  (false, 64, 1, sRetI)]
theorem oK_wall {E : EV} (hsd : E.2.2.2 = 1) (l : Launch) : AllOK E l 3 "FreeLancesModel" prog_13_method_23_code 4 (some .int) outI (cK_wall) := by
  refine ak (ok_aload_n (k := 0) rfl (by decide +kernel)) ?_
  refine ak (ok_iload_n (k := 1) rfl (by decide +kernel)) ?_
  refine ak (ok_invV (r := 40) (kK_isTown hsd l) qK_isTown ck11 kd40 iK_isTown tw1343 tw38 (by decide) tw1341 (by decide +kernel)) ?_
  refine ak (ok_if_eq (off := 24) (by decide) (by decide +kernel)) ?_
  refine ak (ok_iload_n (k := 2) rfl (by decide +kernel)) ?_
  refine ak (ok_iconst (n := 0) (by decide) (by decide +kernel)) ?_
  refine ak (ok_sipush (n := 999) (by decide) (by decide +kernel)) ?_
  refine ak (ok_invS (kK_in hsd l) iK_in tw1330 (by decide) tw1329 (by decide +kernel)) ?_
  refine ak (ok_if_eq (off := 13) (by decide) (by decide +kernel)) ?_
  refine ak (ok_iload_n (k := 3) rfl (by decide +kernel)) ?_
  refine ak (ok_iconst (n := 0) (by decide) (by decide +kernel)) ?_
  refine ak (ok_bipush (n := 99) (by decide) (by decide +kernel)) ?_
  refine ak (ok_invS (kK_in hsd l) iK_in tw1330 (by decide) tw1329 (by decide +kernel)) ?_
  refine ak (ok_if_ne (off := 9) (by decide) (by decide +kernel)) ?_
  refine ak (ok_aload_n (k := 0) rfl (by decide +kernel)) ?_
  refine ak (ok_iconst (n := 1) (by decide) (by decide +kernel)) ?_
  refine ak (ok_invV (r := 40) (kK_finds hsd l) qK_finds ck11 kd40 iK_finds tw1334 tw37 (by decide) tw1332 (by decide +kernel)) ?_
  refine ak (ok_ireturn rfl (by decide +kernel)) ?_
  refine ak (ok_aload_n (k := 0) rfl (by decide +kernel)) ?_
  refine ak (ok_get (k := 0) ck11 kd40 (by decide) (fun _ _ _ => rfl) (vf_40_0 hsd) tw1242 (by decide +kernel)) ?_
  refine ak (ok_bipush (n := 20) (by decide) (by decide +kernel)) ?_
  refine ak (ok_iconst (n := 4) (by decide) (by decide +kernel)) ?_
  refine ak (ok_iload_n (k := 1) rfl (by decide +kernel)) ?_
  refine ak (ok_imul (by decide +kernel)) ?_
  refine ak (ok_iadd (by decide +kernel)) ?_
  refine ak (ok_iconst (n := 2) (by decide) (by decide +kernel)) ?_
  refine ak (ok_iadd (by decide +kernel)) ?_
  refine ak (ok_iload_n (k := 2) rfl (by decide +kernel)) ?_
  refine ak (ok_iast kd41 (by decide) (by decide) (by decide +kernel)) ?_
  refine ak (ok_aload_n (k := 0) rfl (by decide +kernel)) ?_
  refine ak (ok_get (k := 0) ck11 kd40 (by decide) (fun _ _ _ => rfl) (vf_40_0 hsd) tw1242 (by decide +kernel)) ?_
  refine ak (ok_bipush (n := 20) (by decide) (by decide +kernel)) ?_
  refine ak (ok_iconst (n := 4) (by decide) (by decide +kernel)) ?_
  refine ak (ok_iload_n (k := 1) rfl (by decide +kernel)) ?_
  refine ak (ok_imul (by decide +kernel)) ?_
  refine ak (ok_iadd (by decide +kernel)) ?_
  refine ak (ok_iconst (n := 3) (by decide) (by decide +kernel)) ?_
  refine ak (ok_iadd (by decide +kernel)) ?_
  refine ak (ok_iload_n (k := 3) rfl (by decide +kernel)) ?_
  refine ak (ok_iast kd41 (by decide) (by decide) (by decide +kernel)) ?_
  refine ak (ok_iconst (n := 1) (by decide) (by decide +kernel)) ?_
  refine ak (ok_ireturn rfl (by decide +kernel)) ?_
  exact trivial
set_option maxRecDepth 1000000 in
theorem eK_wall (x1 : Int32) (x2 : Int32) (x3 : Int32) (M : Mem) : run (cK_wall) (fun _ _ _ _ => none) rtI 400 (seek (cK_wall) 0) [aR (40, 0, 0), aI x1, aI x2, aI x3] [] M = mK_wall x1 x2 x3 M := id rfl
theorem lK_wall {E : EV} {l : Launch} {p : Program} {e : Env} {s : State} {m : MethodId} {args : Array Value} {below : List Frame} {meth : Method} {c : Code} (A : AllOK E l 3 "FreeLancesModel" prog_13_method_23_code 4 (some .int) outI (cK_wall)) (C : Cx E p s m args meth c "FreeLancesModel" prog_13_method_23_code 4 (some .int)) : ∀ (x1 : Int32) (x2 : Int32) (x3 : Int32) (M : Mem) (res : (Int32 × Mem)), mK_wall x1 x2 x3 M = some res → Wm E p l e 3 s m args below meth c 4 0 [aR (40, 0, 0), aI x1, aI x2, aI x3] [] M (outI res).1 (outI res).2 := by
  intro x1 x2 x3 M res h
  refine run_at C A rfl hrtI (n := 400) ((eK_wall x1 x2 x3 M).trans h) ?_
  intro t als st M hk; cases hk
def dK_wall {β : Type} : Den β := fun as M k => match as with
  | [.inr (.inr (.inl (al0, bl0, cl0))), .inl x1, .inl x2, .inl x3] => if al0 = 40 ∧ bl0 = 0 ∧ cl0 = 0 then (mK_wall x1 x2 x3 M).bind fun q => k (aI q.1) q.2 else none
  | _ => none
theorem wK_wall {E : EV} (hsd : E.2.2.2 = 1) (l : Launch) (x1 : Int32) (x2 : Int32) (x3 : Int32) (M : Mem) (q : (Int32 × Mem)) (hq : mK_wall x1 x2 x3 M = some q) : Con E l 3 yK_wall prog_13_method_23_code 4 (some .int) [aR (40, 0, 0), aI x1, aI x2, aI x3] M (outI q).1 (outI q).2 := by
  refine con_of iK_wall (Nat.le_of_ble_eq_true rfl) ?_
  intro p e s m args below meth c C
  exact lK_wall (oK_wall hsd l) C x1 x2 x3 M _ hq
theorem kK_wall {E : EV} (hsd : E.2.2.2 = 1) (l : Launch) {β : Type} : DenOK E l 3 yK_wall prog_13_method_23_code 4 (some .int) true (dK_wall (β := β)) := by
  intro as M k res h
  unfold dK_wall at h
  split at h
  ·
    split at h
    · rename_i hc
      obtain ⟨rfl, rfl, rfl⟩ := hc
      obtain ⟨q, hq, hk⟩ := Option.bind_eq_some_iff.mp h
      exact ⟨aI q.1, q.2, hk, rfl, wK_wall hsd l _ _ _ M q hq⟩
    · cases h
  · cases h
theorem qK_wall {β : Type} : RecOK 40 (dK_wall (β := β)) := by
  intro as M k res h
  unfold dK_wall at h
  split at h
  ·
    split at h
    · rename_i hc
      obtain ⟨rfl, rfl, rfl⟩ := hc
      exact ⟨_, _, _, rfl⟩
    · cases h
  · cases h
/-! ===== FreeLancesModel.townGets(III)V ===== -/
abbrev yK_townGets : MethodName := ⟨"FreeLancesModel", "townGets", "(III)V"⟩
theorem iK_townGets : MI yK_townGets prog_13_method_11_code 4 none 3 := ⟨tw1377, tw108, ⟨by decide, by decide⟩, by decide +kernel, by decide, by decide⟩
def cK_townGets : List (Ent Mem) := [(false, 0, 1, sLdA 0),
  (false, 1, 3, sGet 40 (fun w i M => aR (41, 0, 0))),
  (false, 4, 2, sC 20),
  (false, 6, 1, sC 4),
  (false, 7, 1, sLdI 1),
  (false, 8, 1, sBin (fun x y => x * y)),
  (false, 9, 1, sBin (fun x y => x + y)),
  (false, 10, 1, sLdI 2),
  (false, 11, 1, sBin (fun x y => x + y)),
  (false, 12, 1, sDup2),
  (false, 13, 1, sIald 41 1502),
  (false, 14, 1, sLdI 3),
  (false, 15, 1, sBin (fun x y => x + y)),
  (false, 16, 1, sIast 41 1502),
  (false, 17, 1, sRetV)]
theorem oK_townGets {E : EV} (hsd : E.2.2.2 = 1) (l : Launch) : AllOK E l 1 "FreeLancesModel" prog_13_method_11_code 4 none outV (cK_townGets) := by
  refine ak (ok_aload_n (k := 0) rfl (by decide +kernel)) ?_
  refine ak (ok_get (k := 0) ck11 kd40 (by decide) (fun _ _ _ => rfl) (vf_40_0 hsd) tw1242 (by decide +kernel)) ?_
  refine ak (ok_bipush (n := 20) (by decide) (by decide +kernel)) ?_
  refine ak (ok_iconst (n := 4) (by decide) (by decide +kernel)) ?_
  refine ak (ok_iload_n (k := 1) rfl (by decide +kernel)) ?_
  refine ak (ok_imul (by decide +kernel)) ?_
  refine ak (ok_iadd (by decide +kernel)) ?_
  refine ak (ok_iload_n (k := 2) rfl (by decide +kernel)) ?_
  refine ak (ok_iadd (by decide +kernel)) ?_
  refine ak (ok_dup2 (by decide +kernel)) ?_
  refine ak (ok_iald kd41 (by decide) (by decide +kernel)) ?_
  refine ak (ok_iload_n (k := 3) rfl (by decide +kernel)) ?_
  refine ak (ok_iadd (by decide +kernel)) ?_
  refine ak (ok_iast kd41 (by decide) (by decide) (by decide +kernel)) ?_
  refine ak (ok_return rfl (by decide +kernel)) ?_
  exact trivial
set_option maxRecDepth 1000000 in
theorem eK_townGets (x1 : Int32) (x2 : Int32) (x3 : Int32) (M : Mem) : run (cK_townGets) (fun _ _ _ _ => none) rtV 400 (seek (cK_townGets) 0) [aR (40, 0, 0), aI x1, aI x2, aI x3] [] M = mK_townGets x1 x2 x3 M := id rfl
theorem lK_townGets {E : EV} {l : Launch} {p : Program} {e : Env} {s : State} {m : MethodId} {args : Array Value} {below : List Frame} {meth : Method} {c : Code} (A : AllOK E l 1 "FreeLancesModel" prog_13_method_11_code 4 none outV (cK_townGets)) (C : Cx E p s m args meth c "FreeLancesModel" prog_13_method_11_code 4 none) : ∀ (x1 : Int32) (x2 : Int32) (x3 : Int32) (M : Mem) (res : Mem), mK_townGets x1 x2 x3 M = some res → Wm E p l e 1 s m args below meth c 4 0 [aR (40, 0, 0), aI x1, aI x2, aI x3] [] M (outV res).1 (outV res).2 := by
  intro x1 x2 x3 M res h
  refine run_at C A rfl hrtV (n := 400) ((eK_townGets x1 x2 x3 M).trans h) ?_
  intro t als st M hk; cases hk
def dK_townGets {β : Type} : Den β := fun as M k => match as with
  | [.inr (.inr (.inl (al0, bl0, cl0))), .inl x1, .inl x2, .inl x3] => if al0 = 40 ∧ bl0 = 0 ∧ cl0 = 0 then (mK_townGets x1 x2 x3 M).bind fun q => k aU q else none
  | _ => none
theorem wK_townGets {E : EV} (hsd : E.2.2.2 = 1) (l : Launch) (x1 : Int32) (x2 : Int32) (x3 : Int32) (M : Mem) (q : Mem) (hq : mK_townGets x1 x2 x3 M = some q) : Con E l 1 yK_townGets prog_13_method_11_code 4 none [aR (40, 0, 0), aI x1, aI x2, aI x3] M (outV q).1 (outV q).2 := by
  refine con_of iK_townGets (Nat.le_of_ble_eq_true rfl) ?_
  intro p e s m args below meth c C
  exact lK_townGets (oK_townGets hsd l) C x1 x2 x3 M _ hq
theorem kK_townGets {E : EV} (hsd : E.2.2.2 = 1) (l : Launch) {β : Type} : DenOK E l 1 yK_townGets prog_13_method_11_code 4 none false (dK_townGets (β := β)) := by
  intro as M k res h
  unfold dK_townGets at h
  split at h
  ·
    split at h
    · rename_i hc
      obtain ⟨rfl, rfl, rfl⟩ := hc
      obtain ⟨q, hq, hk⟩ := Option.bind_eq_some_iff.mp h
      exact ⟨aU, q, hk, rfl, wK_townGets hsd l _ _ _ M q hq⟩
    · cases h
  · cases h
theorem qK_townGets {β : Type} : RecOK 40 (dK_townGets (β := β)) := by
  intro as M k res h
  unfold dK_townGets at h
  split at h
  ·
    split at h
    · rename_i hc
      obtain ⟨rfl, rfl, rfl⟩ := hc
      exact ⟨_, _, _, rfl⟩
    · cases h
  · cases h
/-! ===== FreeLancesModel.harvest(II)I ===== -/
abbrev yK_harvest : MethodName := ⟨"FreeLancesModel", "harvest", "(II)I"⟩
theorem iK_harvest : MI yK_harvest prog_13_method_24_code 3 (some .int) 2 := ⟨tw1372, tw108, ⟨by decide, by decide⟩, by decide +kernel, by decide, by decide⟩
def cK_harvest : List (Ent (Int32 × Mem)) := [(false, 0, 1, sLdA 0),
  (false, 1, 1, sLdI 1),
  (false, 2, 3, sInv 2 true dK_isTown),
  (false, 5, 3, sIfEq 19),
  (false, 8, 1, sLdI 2),
  (false, 9, 1, sC 1),
  (false, 10, 3, sC 9999),
  (false, 13, 3, sInv 3 true dK_in),
  (false, 16, 3, sIfNe 25),
  (false, 19, 1, sLdA 0),
  (false, 20, 1, sC 1),
  (false, 21, 3, sInv 2 true dK_finds),
  (false, 24, 1, sRetI),
  (false, 25, 1, sLdA 0),
  (false, 26, 1, sLdI 1),
  (false, 27, 1, sC 1),
  (false, 28, 3, sInv 3 true dK_ofTown),
  (false, 31, 1, sLdI 2),
  (false, 32, 1, sBin (fun x y => x + y)),
  (false, 33, 2, sC 999999),
  (false, 35, 3, sCmpLe 44),
  (false, 38, 1, sLdA 0),
  (false, 39, 1, sC 4),
  (false, 40, 3, sInv 2 true dK_finds),
  (false, 43, 1, sRetI),
  (false, 44, 1, sLdA 0),
  (false, 45, 1, sLdI 1),
  (false, 46, 1, sC 1),
  (false, 47, 1, sLdI 2),
  (false, 48, 3, sInv 4 false dK_townGets),
  (false, 51, 1, sLdA 0),
  (false, 52, 1, sLdI 1),
  (false, 53, 1, sC 1),
  (false, 54, 3, sInv 3 true dK_ofTown),
  (false, 57, 1, sRetI)]
theorem oK_harvest {E : EV} (hsd : E.2.2.2 = 1) (l : Launch) : AllOK E l 3 "FreeLancesModel" prog_13_method_24_code 3 (some .int) outI (cK_harvest) := by
  refine ak (ok_aload_n (k := 0) rfl (by decide +kernel)) ?_
  refine ak (ok_iload_n (k := 1) rfl (by decide +kernel)) ?_
  refine ak (ok_invV (r := 40) (kK_isTown hsd l) qK_isTown ck11 kd40 iK_isTown tw1343 tw38 (by decide) tw1341 (by decide +kernel)) ?_
  refine ak (ok_if_eq (off := 14) (by decide) (by decide +kernel)) ?_
  refine ak (ok_iload_n (k := 2) rfl (by decide +kernel)) ?_
  refine ak (ok_iconst (n := 1) (by decide) (by decide +kernel)) ?_
  refine ak (ok_sipush (n := 9999) (by decide) (by decide +kernel)) ?_
  refine ak (ok_invS (kK_in hsd l) iK_in tw1330 (by decide) tw1329 (by decide +kernel)) ?_
  refine ak (ok_if_ne (off := 9) (by decide) (by decide +kernel)) ?_
  refine ak (ok_aload_n (k := 0) rfl (by decide +kernel)) ?_
  refine ak (ok_iconst (n := 1) (by decide) (by decide +kernel)) ?_
  refine ak (ok_invV (r := 40) (kK_finds hsd l) qK_finds ck11 kd40 iK_finds tw1334 tw37 (by decide) tw1332 (by decide +kernel)) ?_
  refine ak (ok_ireturn rfl (by decide +kernel)) ?_
  refine ak (ok_aload_n (k := 0) rfl (by decide +kernel)) ?_
  refine ak (ok_iload_n (k := 1) rfl (by decide +kernel)) ?_
  refine ak (ok_iconst (n := 1) (by decide) (by decide +kernel)) ?_
  refine ak (ok_invV (r := 40) (kK_ofTown hsd l) qK_ofTown ck11 kd40 iK_ofTown tw1359 tw40 (by decide) tw1357 (by decide +kernel)) ?_
  refine ak (ok_iload_n (k := 2) rfl (by decide +kernel)) ?_
  refine ak (ok_iadd (by decide +kernel)) ?_
  refine ak (ok_ldc tw1373 (by decide +kernel)) ?_
  refine ak (ok_icmp_le (off := 9) (by decide) (by decide +kernel)) ?_
  refine ak (ok_aload_n (k := 0) rfl (by decide +kernel)) ?_
  refine ak (ok_iconst (n := 4) (by decide) (by decide +kernel)) ?_
  refine ak (ok_invV (r := 40) (kK_finds hsd l) qK_finds ck11 kd40 iK_finds tw1334 tw37 (by decide) tw1332 (by decide +kernel)) ?_
  refine ak (ok_ireturn rfl (by decide +kernel)) ?_
  refine ak (ok_aload_n (k := 0) rfl (by decide +kernel)) ?_
  refine ak (ok_iload_n (k := 1) rfl (by decide +kernel)) ?_
  refine ak (ok_iconst (n := 1) (by decide) (by decide +kernel)) ?_
  refine ak (ok_iload_n (k := 2) rfl (by decide +kernel)) ?_
  refine ak (ok_invV (r := 40) (kK_townGets hsd l) qK_townGets ck11 kd40 iK_townGets tw1376 tw42 (by decide) tw1374 (by decide +kernel)) ?_
  refine ak (ok_aload_n (k := 0) rfl (by decide +kernel)) ?_
  refine ak (ok_iload_n (k := 1) rfl (by decide +kernel)) ?_
  refine ak (ok_iconst (n := 1) (by decide) (by decide +kernel)) ?_
  refine ak (ok_invV (r := 40) (kK_ofTown hsd l) qK_ofTown ck11 kd40 iK_ofTown tw1359 tw40 (by decide) tw1357 (by decide +kernel)) ?_
  refine ak (ok_ireturn rfl (by decide +kernel)) ?_
  exact trivial
set_option maxRecDepth 1000000 in
theorem eK_harvest (x1 : Int32) (x2 : Int32) (M : Mem) : run (cK_harvest) (fun _ _ _ _ => none) rtI 400 (seek (cK_harvest) 0) [aR (40, 0, 0), aI x1, aI x2] [] M = mK_harvest x1 x2 M := id rfl
theorem lK_harvest {E : EV} {l : Launch} {p : Program} {e : Env} {s : State} {m : MethodId} {args : Array Value} {below : List Frame} {meth : Method} {c : Code} (A : AllOK E l 3 "FreeLancesModel" prog_13_method_24_code 3 (some .int) outI (cK_harvest)) (C : Cx E p s m args meth c "FreeLancesModel" prog_13_method_24_code 3 (some .int)) : ∀ (x1 : Int32) (x2 : Int32) (M : Mem) (res : (Int32 × Mem)), mK_harvest x1 x2 M = some res → Wm E p l e 3 s m args below meth c 3 0 [aR (40, 0, 0), aI x1, aI x2] [] M (outI res).1 (outI res).2 := by
  intro x1 x2 M res h
  refine run_at C A rfl hrtI (n := 400) ((eK_harvest x1 x2 M).trans h) ?_
  intro t als st M hk; cases hk
def dK_harvest {β : Type} : Den β := fun as M k => match as with
  | [.inr (.inr (.inl (al0, bl0, cl0))), .inl x1, .inl x2] => if al0 = 40 ∧ bl0 = 0 ∧ cl0 = 0 then (mK_harvest x1 x2 M).bind fun q => k (aI q.1) q.2 else none
  | _ => none
theorem wK_harvest {E : EV} (hsd : E.2.2.2 = 1) (l : Launch) (x1 : Int32) (x2 : Int32) (M : Mem) (q : (Int32 × Mem)) (hq : mK_harvest x1 x2 M = some q) : Con E l 3 yK_harvest prog_13_method_24_code 3 (some .int) [aR (40, 0, 0), aI x1, aI x2] M (outI q).1 (outI q).2 := by
  refine con_of iK_harvest (Nat.le_of_ble_eq_true rfl) ?_
  intro p e s m args below meth c C
  exact lK_harvest (oK_harvest hsd l) C x1 x2 M _ hq
theorem kK_harvest {E : EV} (hsd : E.2.2.2 = 1) (l : Launch) {β : Type} : DenOK E l 3 yK_harvest prog_13_method_24_code 3 (some .int) true (dK_harvest (β := β)) := by
  intro as M k res h
  unfold dK_harvest at h
  split at h
  ·
    split at h
    · rename_i hc
      obtain ⟨rfl, rfl, rfl⟩ := hc
      obtain ⟨q, hq, hk⟩ := Option.bind_eq_some_iff.mp h
      exact ⟨aI q.1, q.2, hk, rfl, wK_harvest hsd l _ _ M q hq⟩
    · cases h
  · cases h
theorem qK_harvest {β : Type} : RecOK 40 (dK_harvest (β := β)) := by
  intro as M k res h
  unfold dK_harvest at h
  split at h
  ·
    split at h
    · rename_i hc
      obtain ⟨rfl, rfl, rfl⟩ := hc
      exact ⟨_, _, _, rfl⟩
    · cases h
  · cases h
/-! ===== FreeLancesModel.sets(III)V ===== -/
abbrev yK_sets : MethodName := ⟨"FreeLancesModel", "sets", "(III)V"⟩
theorem iK_sets : MI yK_sets prog_13_method_13_code 4 none 3 := ⟨tw1385, tw108, ⟨by decide, by decide⟩, by decide +kernel, by decide, by decide⟩
def cK_sets : List (Ent Mem) := [(false, 0, 1, sLdA 0),
  (false, 1, 3, sGet 40 (fun w i M => aR (41, 0, 0))),
  (false, 4, 2, sC 100),
  (false, 6, 2, sC 24),
  (false, 8, 1, sLdI 1),
  (false, 9, 1, sBin (fun x y => x * y)),
  (false, 10, 1, sBin (fun x y => x + y)),
  (false, 11, 1, sLdI 2),
  (false, 12, 1, sBin (fun x y => x + y)),
  (false, 13, 1, sLdI 3),
  (false, 14, 1, sIast 41 1502),
  (false, 15, 1, sRetV)]
theorem oK_sets {E : EV} (hsd : E.2.2.2 = 1) (l : Launch) : AllOK E l 1 "FreeLancesModel" prog_13_method_13_code 4 none outV (cK_sets) := by
  refine ak (ok_aload_n (k := 0) rfl (by decide +kernel)) ?_
  refine ak (ok_get (k := 0) ck11 kd40 (by decide) (fun _ _ _ => rfl) (vf_40_0 hsd) tw1242 (by decide +kernel)) ?_
  refine ak (ok_bipush (n := 100) (by decide) (by decide +kernel)) ?_
  refine ak (ok_bipush (n := 24) (by decide) (by decide +kernel)) ?_
  refine ak (ok_iload_n (k := 1) rfl (by decide +kernel)) ?_
  refine ak (ok_imul (by decide +kernel)) ?_
  refine ak (ok_iadd (by decide +kernel)) ?_
  refine ak (ok_iload_n (k := 2) rfl (by decide +kernel)) ?_
  refine ak (ok_iadd (by decide +kernel)) ?_
  refine ak (ok_iload_n (k := 3) rfl (by decide +kernel)) ?_
  refine ak (ok_iast kd41 (by decide) (by decide) (by decide +kernel)) ?_
  refine ak (ok_return rfl (by decide +kernel)) ?_
  exact trivial
set_option maxRecDepth 1000000 in
theorem eK_sets (x1 : Int32) (x2 : Int32) (x3 : Int32) (M : Mem) : run (cK_sets) (fun _ _ _ _ => none) rtV 400 (seek (cK_sets) 0) [aR (40, 0, 0), aI x1, aI x2, aI x3] [] M = mK_sets x1 x2 x3 M := id rfl
theorem lK_sets {E : EV} {l : Launch} {p : Program} {e : Env} {s : State} {m : MethodId} {args : Array Value} {below : List Frame} {meth : Method} {c : Code} (A : AllOK E l 1 "FreeLancesModel" prog_13_method_13_code 4 none outV (cK_sets)) (C : Cx E p s m args meth c "FreeLancesModel" prog_13_method_13_code 4 none) : ∀ (x1 : Int32) (x2 : Int32) (x3 : Int32) (M : Mem) (res : Mem), mK_sets x1 x2 x3 M = some res → Wm E p l e 1 s m args below meth c 4 0 [aR (40, 0, 0), aI x1, aI x2, aI x3] [] M (outV res).1 (outV res).2 := by
  intro x1 x2 x3 M res h
  refine run_at C A rfl hrtV (n := 400) ((eK_sets x1 x2 x3 M).trans h) ?_
  intro t als st M hk; cases hk
def dK_sets {β : Type} : Den β := fun as M k => match as with
  | [.inr (.inr (.inl (al0, bl0, cl0))), .inl x1, .inl x2, .inl x3] => if al0 = 40 ∧ bl0 = 0 ∧ cl0 = 0 then (mK_sets x1 x2 x3 M).bind fun q => k aU q else none
  | _ => none
theorem wK_sets {E : EV} (hsd : E.2.2.2 = 1) (l : Launch) (x1 : Int32) (x2 : Int32) (x3 : Int32) (M : Mem) (q : Mem) (hq : mK_sets x1 x2 x3 M = some q) : Con E l 1 yK_sets prog_13_method_13_code 4 none [aR (40, 0, 0), aI x1, aI x2, aI x3] M (outV q).1 (outV q).2 := by
  refine con_of iK_sets (Nat.le_of_ble_eq_true rfl) ?_
  intro p e s m args below meth c C
  exact lK_sets (oK_sets hsd l) C x1 x2 x3 M _ hq
theorem kK_sets {E : EV} (hsd : E.2.2.2 = 1) (l : Launch) {β : Type} : DenOK E l 1 yK_sets prog_13_method_13_code 4 none false (dK_sets (β := β)) := by
  intro as M k res h
  unfold dK_sets at h
  split at h
  ·
    split at h
    · rename_i hc
      obtain ⟨rfl, rfl, rfl⟩ := hc
      obtain ⟨q, hq, hk⟩ := Option.bind_eq_some_iff.mp h
      exact ⟨aU, q, hk, rfl, wK_sets hsd l _ _ _ M q hq⟩
    · cases h
  · cases h
theorem qK_sets {β : Type} : RecOK 40 (dK_sets (β := β)) := by
  intro as M k res h
  unfold dK_sets at h
  split at h
  ·
    split at h
    · rename_i hc
      obtain ⟨rfl, rfl, rfl⟩ := hc
      exact ⟨_, _, _, rfl⟩
    · cases h
  · cases h
/-! ===== FreeLancesModel.company(III)I ===== -/
abbrev yK_company : MethodName := ⟨"FreeLancesModel", "company", "(III)I"⟩
theorem iK_company : MI yK_company prog_13_method_25_code 6 (some .int) 3 := ⟨tw1381, tw108, ⟨by decide, by decide⟩, by decide +kernel, by decide, by decide⟩
def cK_company : List (Ent (Int32 × Mem)) := [(false, 0, 1, sLdA 0),
  (false, 1, 1, sLdI 1),
  (false, 2, 3, sInv 2 true dK_isTown),
  (false, 5, 3, sIfEq 30),
  (false, 8, 1, sLdI 2),
  (false, 9, 1, sC 0),
  (false, 10, 3, sC 9999),
  (false, 13, 3, sInv 3 true dK_in),
  (false, 16, 3, sIfEq 30),
  (false, 19, 1, sLdI 3),
  (false, 20, 1, sC 0),
  (false, 21, 3, sC 9999),
  (false, 24, 3, sInv 3 true dK_in),
  (false, 27, 3, sIfNe 36),
  (false, 30, 1, sLdA 0),
  (false, 31, 1, sC 1),
  (false, 32, 3, sInv 2 true dK_finds),
  (false, 35, 1, sRetI),
  (false, 36, 1, sLdA 0),
  (false, 37, 3, sGet 40 (fun w i M => aR (41, 0, 0))),
  (false, 40, 1, sC 2),
  (false, 41, 1, sIald 41 1502),
  (false, 42, 2, sStI 4),
  (false, 44, 2, sLdI 4),
  (false, 46, 1, sC 5),
  (false, 47, 3, sCmpNe 56),
  (false, 50, 1, sLdA 0),
  (false, 51, 1, sC 4),
  (false, 52, 3, sInv 2 true dK_finds),
  (false, 55, 1, sRetI),
  (false, 56, 1, sLdA 0),
  (false, 57, 3, sGet 40 (fun w i M => aR (41, 0, 0))),
  (false, 60, 1, sC 2),
  (false, 61, 1, sDup2),
  (false, 62, 1, sIald 41 1502),
  (false, 63, 1, sC 1),
  (false, 64, 1, sBin (fun x y => x + y)),
  (false, 65, 1, sIast 41 1502),
  (false, 66, 1, sC 0),
  (false, 67, 2, sStI 5),
  (true, 69, 2, sLdI 5),
  (false, 71, 2, sC 24),
  (false, 73, 3, sCmpGe 109),
  (false, 76, 1, sLdA 0),
  (false, 77, 2, sLdI 4),
  (false, 79, 2, sLdI 5),
  (false, 81, 2, sLdI 5),
  (false, 83, 2, sC 6),
  (false, 85, 3, sCmpEq 95),
  (false, 88, 2, sLdI 5),
  (false, 90, 2, sC 7),
  (false, 92, 3, sCmpNe 99),
  (false, 95, 1, sC (-1)),
  (false, 96, 3, sGoto 100),
  (false, 99, 1, sC 0),
  (false, 100, 3, sInv 4 false dK_sets),
  (false, 103, 3, sInc 5 1),
  (false, 106, 3, sGoto 69),
  (false, 109, 1, sLdA 0),
  (false, 110, 2, sLdI 4),
  (false, 112, 1, sC 0),
  (false, 113, 1, sLdI 2),
  (false, 114, 3, sInv 4 false dK_sets),
  (false, 117, 1, sLdA 0),
  (false, 118, 2, sLdI 4),
  (false, 120, 1, sC 1),
  (false, 121, 1, sLdI 3),
  (false, 122, 3, sInv 4 false dK_sets),
  (false, 125, 1, sLdA 0),
  (false, 126, 2, sLdI 4),
  (false, 128, 1, sC 2),
  (false, 129, 1, sLdI 1),
  (false, 130, 3, sInv 4 false dK_sets),
  (false, 133, 1, sC 0),
  (false, 134, 2, sStI 5),
  (true, 136, 2, sLdI 5),
  (false, 138, 2, sC 8),
  (false, 140, 3, sCmpGe 167),
  (false, 143, 1, sLdA 0),
  (false, 144, 3, sGet 40 (fun w i M => aR (41, 0, 0))),
  (false, 147, 3, sC 1392),
  (false, 150, 2, sC 8),
  (false, 152, 2, sLdI 4),
  (false, 154, 1, sBin (fun x y => x * y)),
  (false, 155, 1, sBin (fun x y => x + y)),
  (false, 156, 2, sLdI 5),
  (false, 158, 1, sBin (fun x y => x + y)),
  (false, 159, 1, sC 0),
  (false, 160, 1, sIast 41 1502),
  (false, 161, 3, sInc 5 1),
  (false, 164, 3, sGoto 136),
  (false, 167, 2, sLdI 4),
  (false, 169, 1, sRetI)]
theorem oK_company {E : EV} (hsd : E.2.2.2 = 1) (l : Launch) : AllOK E l 3 "FreeLancesModel" prog_13_method_25_code 6 (some .int) outI (cK_company) := by
  refine ak (ok_aload_n (k := 0) rfl (by decide +kernel)) ?_
  refine ak (ok_iload_n (k := 1) rfl (by decide +kernel)) ?_
  refine ak (ok_invV (r := 40) (kK_isTown hsd l) qK_isTown ck11 kd40 iK_isTown tw1343 tw38 (by decide) tw1341 (by decide +kernel)) ?_
  refine ak (ok_if_eq (off := 25) (by decide) (by decide +kernel)) ?_
  refine ak (ok_iload_n (k := 2) rfl (by decide +kernel)) ?_
  refine ak (ok_iconst (n := 0) (by decide) (by decide +kernel)) ?_
  refine ak (ok_sipush (n := 9999) (by decide) (by decide +kernel)) ?_
  refine ak (ok_invS (kK_in hsd l) iK_in tw1330 (by decide) tw1329 (by decide +kernel)) ?_
  refine ak (ok_if_eq (off := 14) (by decide) (by decide +kernel)) ?_
  refine ak (ok_iload_n (k := 3) rfl (by decide +kernel)) ?_
  refine ak (ok_iconst (n := 0) (by decide) (by decide +kernel)) ?_
  refine ak (ok_sipush (n := 9999) (by decide) (by decide +kernel)) ?_
  refine ak (ok_invS (kK_in hsd l) iK_in tw1330 (by decide) tw1329 (by decide +kernel)) ?_
  refine ak (ok_if_ne (off := 9) (by decide) (by decide +kernel)) ?_
  refine ak (ok_aload_n (k := 0) rfl (by decide +kernel)) ?_
  refine ak (ok_iconst (n := 1) (by decide) (by decide +kernel)) ?_
  refine ak (ok_invV (r := 40) (kK_finds hsd l) qK_finds ck11 kd40 iK_finds tw1334 tw37 (by decide) tw1332 (by decide +kernel)) ?_
  refine ak (ok_ireturn rfl (by decide +kernel)) ?_
  refine ak (ok_aload_n (k := 0) rfl (by decide +kernel)) ?_
  refine ak (ok_get (k := 0) ck11 kd40 (by decide) (fun _ _ _ => rfl) (vf_40_0 hsd) tw1242 (by decide +kernel)) ?_
  refine ak (ok_iconst (n := 2) (by decide) (by decide +kernel)) ?_
  refine ak (ok_iald kd41 (by decide) (by decide +kernel)) ?_
  refine ak (ok_istore (by decide) (by decide +kernel)) ?_
  refine ak (ok_iload (by decide +kernel)) ?_
  refine ak (ok_iconst (n := 5) (by decide) (by decide +kernel)) ?_
  refine ak (ok_icmp_ne (off := 9) (by decide) (by decide +kernel)) ?_
  refine ak (ok_aload_n (k := 0) rfl (by decide +kernel)) ?_
  refine ak (ok_iconst (n := 4) (by decide) (by decide +kernel)) ?_
  refine ak (ok_invV (r := 40) (kK_finds hsd l) qK_finds ck11 kd40 iK_finds tw1334 tw37 (by decide) tw1332 (by decide +kernel)) ?_
  refine ak (ok_ireturn rfl (by decide +kernel)) ?_
  refine ak (ok_aload_n (k := 0) rfl (by decide +kernel)) ?_
  refine ak (ok_get (k := 0) ck11 kd40 (by decide) (fun _ _ _ => rfl) (vf_40_0 hsd) tw1242 (by decide +kernel)) ?_
  refine ak (ok_iconst (n := 2) (by decide) (by decide +kernel)) ?_
  refine ak (ok_dup2 (by decide +kernel)) ?_
  refine ak (ok_iald kd41 (by decide) (by decide +kernel)) ?_
  refine ak (ok_iconst (n := 1) (by decide) (by decide +kernel)) ?_
  refine ak (ok_iadd (by decide +kernel)) ?_
  refine ak (ok_iast kd41 (by decide) (by decide) (by decide +kernel)) ?_
  refine ak (ok_iconst (n := 0) (by decide) (by decide +kernel)) ?_
  refine ak (ok_istore (by decide) (by decide +kernel)) ?_
  refine ak (ok_iload (by decide +kernel)) ?_
  refine ak (ok_bipush (n := 24) (by decide) (by decide +kernel)) ?_
  refine ak (ok_icmp_ge (off := 36) (by decide) (by decide +kernel)) ?_
  refine ak (ok_aload_n (k := 0) rfl (by decide +kernel)) ?_
  refine ak (ok_iload (by decide +kernel)) ?_
  refine ak (ok_iload (by decide +kernel)) ?_
  refine ak (ok_iload (by decide +kernel)) ?_
  refine ak (ok_bipush (n := 6) (by decide) (by decide +kernel)) ?_
  refine ak (ok_icmp_eq (off := 10) (by decide) (by decide +kernel)) ?_
  refine ak (ok_iload (by decide +kernel)) ?_
  refine ak (ok_bipush (n := 7) (by decide) (by decide +kernel)) ?_
  refine ak (ok_icmp_ne (off := 7) (by decide) (by decide +kernel)) ?_
  refine ak (ok_iconst (n := (-1)) (by decide) (by decide +kernel)) ?_
  refine ak (ok_goto (off := 4) (by decide) (by decide +kernel)) ?_
  refine ak (ok_iconst (n := 0) (by decide) (by decide +kernel)) ?_
  refine ak (ok_invV (r := 40) (kK_sets hsd l) qK_sets ck11 kd40 iK_sets tw1384 tw43 (by decide) tw1382 (by decide +kernel)) ?_
  refine ak (ok_iinc (n := 1) (by decide) (by decide) (by decide +kernel)) ?_
  refine ak (ok_goto (off := (-37)) (by decide) (by decide +kernel)) ?_
  refine ak (ok_aload_n (k := 0) rfl (by decide +kernel)) ?_
  refine ak (ok_iload (by decide +kernel)) ?_
  refine ak (ok_iconst (n := 0) (by decide) (by decide +kernel)) ?_
  refine ak (ok_iload_n (k := 2) rfl (by decide +kernel)) ?_
  refine ak (ok_invV (r := 40) (kK_sets hsd l) qK_sets ck11 kd40 iK_sets tw1384 tw43 (by decide) tw1382 (by decide +kernel)) ?_
  refine ak (ok_aload_n (k := 0) rfl (by decide +kernel)) ?_
  refine ak (ok_iload (by decide +kernel)) ?_
  refine ak (ok_iconst (n := 1) (by decide) (by decide +kernel)) ?_
  refine ak (ok_iload_n (k := 3) rfl (by decide +kernel)) ?_
  refine ak (ok_invV (r := 40) (kK_sets hsd l) qK_sets ck11 kd40 iK_sets tw1384 tw43 (by decide) tw1382 (by decide +kernel)) ?_
  refine ak (ok_aload_n (k := 0) rfl (by decide +kernel)) ?_
  refine ak (ok_iload (by decide +kernel)) ?_
  refine ak (ok_iconst (n := 2) (by decide) (by decide +kernel)) ?_
  refine ak (ok_iload_n (k := 1) rfl (by decide +kernel)) ?_
  refine ak (ok_invV (r := 40) (kK_sets hsd l) qK_sets ck11 kd40 iK_sets tw1384 tw43 (by decide) tw1382 (by decide +kernel)) ?_
  refine ak (ok_iconst (n := 0) (by decide) (by decide +kernel)) ?_
  refine ak (ok_istore (by decide) (by decide +kernel)) ?_
  refine ak (ok_iload (by decide +kernel)) ?_
  refine ak (ok_bipush (n := 8) (by decide) (by decide +kernel)) ?_
  refine ak (ok_icmp_ge (off := 27) (by decide) (by decide +kernel)) ?_
  refine ak (ok_aload_n (k := 0) rfl (by decide +kernel)) ?_
  refine ak (ok_get (k := 0) ck11 kd40 (by decide) (fun _ _ _ => rfl) (vf_40_0 hsd) tw1242 (by decide +kernel)) ?_
  refine ak (ok_sipush (n := 1392) (by decide) (by decide +kernel)) ?_
  refine ak (ok_bipush (n := 8) (by decide) (by decide +kernel)) ?_
  refine ak (ok_iload (by decide +kernel)) ?_
  refine ak (ok_imul (by decide +kernel)) ?_
  refine ak (ok_iadd (by decide +kernel)) ?_
  refine ak (ok_iload (by decide +kernel)) ?_
  refine ak (ok_iadd (by decide +kernel)) ?_
  refine ak (ok_iconst (n := 0) (by decide) (by decide +kernel)) ?_
  refine ak (ok_iast kd41 (by decide) (by decide) (by decide +kernel)) ?_
  refine ak (ok_iinc (n := 1) (by decide) (by decide) (by decide +kernel)) ?_
  refine ak (ok_goto (off := (-28)) (by decide) (by decide +kernel)) ?_
  refine ak (ok_iload (by decide +kernel)) ?_
  refine ak (ok_ireturn rfl (by decide +kernel)) ?_
  exact trivial
def KK_company_136 (j136 : Int32 → Int32 → Mem → Option (Int32 × Mem)) : Jm (Int32 × Mem) := fun t als st M =>
  if t = 136 then (match als, st with
  | [.inr (.inr (.inl (al0, bl0, cl0))), _, _, _, .inl x4, .inl x5], [] => if al0 = 40 ∧ bl0 = 0 ∧ cl0 = 0 then j136 x4 x5 M else none
  | _, _ => none) else
  none
set_option maxRecDepth 1000000 in
theorem eK_company_136 (j136 : Int32 → Int32 → Mem → Option (Int32 × Mem)) (x4 : Int32) (x5 : Int32) (M : Mem) (u1 u2 u3 : AV) : run (cK_company) (KK_company_136 j136) rtI 400 (seek (cK_company) 136) [aR (40, 0, 0), u1, u2, u3, aI x4, aI x5] [] M = mK_company_136b j136 x4 x5 M := id rfl
theorem lK_company_136 {E : EV} {l : Launch} {p : Program} {e : Env} {s : State} {m : MethodId} {args : Array Value} {below : List Frame} {meth : Method} {c : Code} (A : AllOK E l 3 "FreeLancesModel" prog_13_method_25_code 6 (some .int) outI (cK_company)) (C : Cx E p s m args meth c "FreeLancesModel" prog_13_method_25_code 6 (some .int)) : ∀ (n : Nat), ∀ (x4 : Int32) (x5 : Int32) (M : Mem) (res : (Int32 × Mem)), mK_company_136 n x4 x5 M = some res → ∀ (u1 u2 u3 : AV), Wm E p l e 3 s m args below meth c 6 136 [aR (40, 0, 0), u1, u2, u3, aI x4, aI x5] [] M (outI res).1 (outI res).2 := by
  intro n
  induction n with
  | zero => intro _ _ M res h; cases h
  | succ n ih =>
    intro x4 x5 M res h u1 u2 u3
    refine run_at C A rfl hrtI (n := 400) ((eK_company_136 (mK_company_136 n) x4 x5 M u1 u2 u3).trans h) ?_
    intro t als st M hk
    unfold KK_company_136 at hk
    split at hk
    · rename_i ht
      subst ht
      split at hk
      · split at hk
        · rename_i hc
          obtain ⟨rfl, rfl, rfl⟩ := hc
          exact ih _ _ _ _ hk _ _ _
        · cases hk
      · cases hk
    cases hk
def KK_company_69 (j69 : Int32 → Int32 → Int32 → Int32 → Int32 → Mem → Option (Int32 × Mem)) (j136 : Int32 → Int32 → Mem → Option (Int32 × Mem)) : Jm (Int32 × Mem) := fun t als st M =>
  if t = 69 then (match als, st with
  | [.inr (.inr (.inl (al0, bl0, cl0))), .inl x1, .inl x2, .inl x3, .inl x4, .inl x5], [] => if al0 = 40 ∧ bl0 = 0 ∧ cl0 = 0 then j69 x1 x2 x3 x4 x5 M else none
  | _, _ => none) else
  if t = 136 then (match als, st with
  | [.inr (.inr (.inl (al0, bl0, cl0))), _, _, _, .inl x4, .inl x5], [] => if al0 = 40 ∧ bl0 = 0 ∧ cl0 = 0 then j136 x4 x5 M else none
  | _, _ => none) else
  none
set_option maxRecDepth 1000000 in
theorem eK_company_69 (j69 : Int32 → Int32 → Int32 → Int32 → Int32 → Mem → Option (Int32 × Mem)) (j136 : Int32 → Int32 → Mem → Option (Int32 × Mem)) (x1 : Int32) (x2 : Int32) (x3 : Int32) (x4 : Int32) (x5 : Int32) (M : Mem) : run (cK_company) (KK_company_69 j69 j136) rtI 400 (seek (cK_company) 69) [aR (40, 0, 0), aI x1, aI x2, aI x3, aI x4, aI x5] [] M = mK_company_69b j69 j136 x1 x2 x3 x4 x5 M := id rfl
theorem lK_company_69 {E : EV} {l : Launch} {p : Program} {e : Env} {s : State} {m : MethodId} {args : Array Value} {below : List Frame} {meth : Method} {c : Code} (A : AllOK E l 3 "FreeLancesModel" prog_13_method_25_code 6 (some .int) outI (cK_company)) (C : Cx E p s m args meth c "FreeLancesModel" prog_13_method_25_code 6 (some .int)) : ∀ (n : Nat), ∀ (x1 : Int32) (x2 : Int32) (x3 : Int32) (x4 : Int32) (x5 : Int32) (M : Mem) (res : (Int32 × Mem)), mK_company_69 n x1 x2 x3 x4 x5 M = some res → Wm E p l e 3 s m args below meth c 6 69 [aR (40, 0, 0), aI x1, aI x2, aI x3, aI x4, aI x5] [] M (outI res).1 (outI res).2 := by
  intro n
  induction n with
  | zero => intro _ _ _ _ _ M res h; cases h
  | succ n ih =>
    intro x1 x2 x3 x4 x5 M res h
    refine run_at C A rfl hrtI (n := 400) ((eK_company_69 (mK_company_69 n) (mK_company_136 fuel) x1 x2 x3 x4 x5 M).trans h) ?_
    intro t als st M hk
    unfold KK_company_69 at hk
    split at hk
    · rename_i ht
      subst ht
      split at hk
      · split at hk
        · rename_i hc
          obtain ⟨rfl, rfl, rfl⟩ := hc
          exact ih _ _ _ _ _ _ _ hk
        · cases hk
      · cases hk
    split at hk
    · rename_i ht
      subst ht
      split at hk
      · split at hk
        · rename_i hc
          obtain ⟨rfl, rfl, rfl⟩ := hc
          exact lK_company_136 A C _ _ _ _ _ hk _ _ _
        · cases hk
      · cases hk
    cases hk
def KK_company (j69 : Int32 → Int32 → Int32 → Int32 → Int32 → Mem → Option (Int32 × Mem)) : Jm (Int32 × Mem) := fun t als st M =>
  if t = 69 then (match als, st with
  | [.inr (.inr (.inl (al0, bl0, cl0))), .inl x1, .inl x2, .inl x3, .inl x4, .inl x5], [] => if al0 = 40 ∧ bl0 = 0 ∧ cl0 = 0 then j69 x1 x2 x3 x4 x5 M else none
  | _, _ => none) else
  none
set_option maxRecDepth 1000000 in
theorem eK_company (j69 : Int32 → Int32 → Int32 → Int32 → Int32 → Mem → Option (Int32 × Mem)) (x1 : Int32) (x2 : Int32) (x3 : Int32) (M : Mem) : run (cK_company) (KK_company j69) rtI 400 (seek (cK_company) 0) [aR (40, 0, 0), aI x1, aI x2, aI x3, aU, aU] [] M = mK_companyb j69 x1 x2 x3 M := id rfl
theorem lK_company {E : EV} {l : Launch} {p : Program} {e : Env} {s : State} {m : MethodId} {args : Array Value} {below : List Frame} {meth : Method} {c : Code} (A : AllOK E l 3 "FreeLancesModel" prog_13_method_25_code 6 (some .int) outI (cK_company)) (C : Cx E p s m args meth c "FreeLancesModel" prog_13_method_25_code 6 (some .int)) : ∀ (x1 : Int32) (x2 : Int32) (x3 : Int32) (M : Mem) (res : (Int32 × Mem)), mK_company x1 x2 x3 M = some res → Wm E p l e 3 s m args below meth c 6 0 [aR (40, 0, 0), aI x1, aI x2, aI x3, aU, aU] [] M (outI res).1 (outI res).2 := by
  intro x1 x2 x3 M res h
  refine run_at C A rfl hrtI (n := 400) ((eK_company (mK_company_69 fuel) x1 x2 x3 M).trans h) ?_
  intro t als st M hk
  unfold KK_company at hk
  split at hk
  · rename_i ht
    subst ht
    split at hk
    · split at hk
      · rename_i hc
        obtain ⟨rfl, rfl, rfl⟩ := hc
        exact lK_company_69 A C _ _ _ _ _ _ _ _ hk
      · cases hk
    · cases hk
  cases hk
def dK_company {β : Type} : Den β := fun as M k => match as with
  | [.inr (.inr (.inl (al0, bl0, cl0))), .inl x1, .inl x2, .inl x3] => if al0 = 40 ∧ bl0 = 0 ∧ cl0 = 0 then (mK_company x1 x2 x3 M).bind fun q => k (aI q.1) q.2 else none
  | _ => none
theorem wK_company {E : EV} (hsd : E.2.2.2 = 1) (l : Launch) (x1 : Int32) (x2 : Int32) (x3 : Int32) (M : Mem) (q : (Int32 × Mem)) (hq : mK_company x1 x2 x3 M = some q) : Con E l 3 yK_company prog_13_method_25_code 6 (some .int) [aR (40, 0, 0), aI x1, aI x2, aI x3] M (outI q).1 (outI q).2 := by
  refine con_of iK_company (Nat.le_of_ble_eq_true rfl) ?_
  intro p e s m args below meth c C
  exact lK_company (oK_company hsd l) C x1 x2 x3 M _ hq
theorem kK_company {E : EV} (hsd : E.2.2.2 = 1) (l : Launch) {β : Type} : DenOK E l 3 yK_company prog_13_method_25_code 6 (some .int) true (dK_company (β := β)) := by
  intro as M k res h
  unfold dK_company at h
  split at h
  ·
    split at h
    · rename_i hc
      obtain ⟨rfl, rfl, rfl⟩ := hc
      obtain ⟨q, hq, hk⟩ := Option.bind_eq_some_iff.mp h
      exact ⟨aI q.1, q.2, hk, rfl, wK_company hsd l _ _ _ M q hq⟩
    · cases h
  · cases h
theorem qK_company {β : Type} : RecOK 40 (dK_company (β := β)) := by
  intro as M k res h
  unfold dK_company at h
  split at h
  ·
    split at h
    · rename_i hc
      obtain ⟨rfl, rfl, rfl⟩ := hc
      exact ⟨_, _, _, rfl⟩
    · cases h
  · cases h
/-! ===== FreeLancesModel.isCompany(I)Z ===== -/
abbrev yK_isCompany : MethodName := ⟨"FreeLancesModel", "isCompany", "(I)Z"⟩
theorem iK_isCompany : MI yK_isCompany prog_13_method_6_code 2 (some .boolean) 1 := ⟨tw1393, tw108, ⟨by decide, by decide⟩, by decide +kernel, by decide, by decide⟩
def cK_isCompany : List (Ent (Int32 × Mem)) := [(false, 0, 1, sLdI 1),
  (false, 1, 1, sC 0),
  (false, 2, 1, sLdA 0),
  (false, 3, 3, sGet 40 (fun w i M => aR (41, 0, 0))),
  (false, 6, 1, sC 2),
  (false, 7, 1, sIald 41 1502),
  (false, 8, 1, sC 1),
  (false, 9, 1, sBin (fun x y => x - y)),
  (false, 10, 3, sInv 3 true dK_in),
  (false, 13, 1, sRetZ)]
theorem oK_isCompany {E : EV} (hsd : E.2.2.2 = 1) (l : Launch) : AllOK E l 2 "FreeLancesModel" prog_13_method_6_code 2 (some .boolean) outI (cK_isCompany) := by
  refine ak (ok_iload_n (k := 1) rfl (by decide +kernel)) ?_
  refine ak (ok_iconst (n := 0) (by decide) (by decide +kernel)) ?_
  refine ak (ok_aload_n (k := 0) rfl (by decide +kernel)) ?_
  refine ak (ok_get (k := 0) ck11 kd40 (by decide) (fun _ _ _ => rfl) (vf_40_0 hsd) tw1242 (by decide +kernel)) ?_
  refine ak (ok_iconst (n := 2) (by decide) (by decide +kernel)) ?_
  refine ak (ok_iald kd41 (by decide) (by decide +kernel)) ?_
  refine ak (ok_iconst (n := 1) (by decide) (by decide +kernel)) ?_
  refine ak (ok_isub (by decide +kernel)) ?_
  refine ak (ok_invS (kK_in hsd l) iK_in tw1330 (by decide) tw1329 (by decide +kernel)) ?_
  refine ak (ok_zreturn rfl (by decide +kernel)) ?_
  exact trivial
set_option maxRecDepth 1000000 in
theorem eK_isCompany (x1 : Int32) (M : Mem) : run (cK_isCompany) (fun _ _ _ _ => none) rtI 400 (seek (cK_isCompany) 0) [aR (40, 0, 0), aI x1] [] M = mK_isCompany x1 M := id rfl
theorem lK_isCompany {E : EV} {l : Launch} {p : Program} {e : Env} {s : State} {m : MethodId} {args : Array Value} {below : List Frame} {meth : Method} {c : Code} (A : AllOK E l 2 "FreeLancesModel" prog_13_method_6_code 2 (some .boolean) outI (cK_isCompany)) (C : Cx E p s m args meth c "FreeLancesModel" prog_13_method_6_code 2 (some .boolean)) : ∀ (x1 : Int32) (M : Mem) (res : (Int32 × Mem)), mK_isCompany x1 M = some res → Wm E p l e 2 s m args below meth c 2 0 [aR (40, 0, 0), aI x1] [] M (outI res).1 (outI res).2 := by
  intro x1 M res h
  refine run_at C A rfl hrtI (n := 400) ((eK_isCompany x1 M).trans h) ?_
  intro t als st M hk; cases hk
def dK_isCompany {β : Type} : Den β := fun as M k => match as with
  | [.inr (.inr (.inl (al0, bl0, cl0))), .inl x1] => if al0 = 40 ∧ bl0 = 0 ∧ cl0 = 0 then (mK_isCompany x1 M).bind fun q => k (aI q.1) q.2 else none
  | _ => none
theorem wK_isCompany {E : EV} (hsd : E.2.2.2 = 1) (l : Launch) (x1 : Int32) (M : Mem) (q : (Int32 × Mem)) (hq : mK_isCompany x1 M = some q) : Con E l 2 yK_isCompany prog_13_method_6_code 2 (some .boolean) [aR (40, 0, 0), aI x1] M (outI q).1 (outI q).2 := by
  refine con_of iK_isCompany (Nat.le_of_ble_eq_true rfl) ?_
  intro p e s m args below meth c C
  exact lK_isCompany (oK_isCompany hsd l) C x1 M _ hq
theorem kK_isCompany {E : EV} (hsd : E.2.2.2 = 1) (l : Launch) {β : Type} : DenOK E l 2 yK_isCompany prog_13_method_6_code 2 (some .boolean) true (dK_isCompany (β := β)) := by
  intro as M k res h
  unfold dK_isCompany at h
  split at h
  ·
    split at h
    · rename_i hc
      obtain ⟨rfl, rfl, rfl⟩ := hc
      obtain ⟨q, hq, hk⟩ := Option.bind_eq_some_iff.mp h
      exact ⟨aI q.1, q.2, hk, rfl, wK_isCompany hsd l _ M q hq⟩
    · cases h
  · cases h
theorem qK_isCompany {β : Type} : RecOK 40 (dK_isCompany (β := β)) := by
  intro as M k res h
  unfold dK_isCompany at h
  split at h
  ·
    split at h
    · rename_i hc
      obtain ⟨rfl, rfl, rfl⟩ := hc
      exact ⟨_, _, _, rfl⟩
    · cases h
  · cases h
