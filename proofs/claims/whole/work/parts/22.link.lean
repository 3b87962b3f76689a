/-! ===== FreeLances$Sheet.inThrees(I)Z ===== -/
abbrev yS_inThrees : MethodName := ⟨"FreeLances$Sheet", "inThrees", "(I)Z"⟩
theorem iS_inThrees : MI yS_inThrees prog_7_method_7_code 2 (some .boolean) 1 := ⟨tw977, tw105, ⟨by decide, by decide⟩, by decide +kernel, by decide, by decide⟩
def cS_inThrees : List (Ent (Int32 × Mem)) := [(false, 0, 1, sLdA 0),
  (false, 1, 3, sGet 19 (fun w i M => aI (M 19 w i 1))),
  (false, 4, 3, sIfLe 41),
  (false, 7, 1, sLdA 0),
  (false, 8, 3, sGet 19 (fun w i M => aI (M 19 w i 1))),
  (false, 11, 1, sC 3),
  (false, 12, 1, sBin0 (fun x y => x - x / y * y)),
  (false, 13, 3, sIfNe 41),
  (false, 16, 1, sLdA 0),
  (false, 17, 3, sGet 19 (fun w i M => aI (M 19 w i 1))),
  (false, 20, 1, sC 3),
  (false, 21, 1, sBin0 (fun x y => x / y)),
  (false, 22, 1, sLdI 1),
  (false, 23, 3, sCmpGt 41),
  (false, 26, 1, sLdA 0),
  (false, 27, 1, sC 0),
  (false, 28, 3, sC 9999),
  (false, 31, 3, sInv 3 true dS_allWithin),
  (false, 34, 3, sIfEq 41),
  (false, 37, 1, sC 1),
  (false, 38, 3, sGoto 42),
  (false, 41, 1, sC 0),
  (false, 42, 1, sRetZ)]
theorem oS_inThrees {E : EV} (hsd : E.2.2.2 = 0) (l : Launch) : AllOK E l 3 "FreeLances$Sheet" prog_7_method_7_code 2 (some .boolean) outI (cS_inThrees) := by
  refine ak (ok_aload_n (k := 0) rfl (by decide +kernel)) ?_
  refine ak (ok_get (k := 1) ck5 kd19 (by decide) (fun _ _ _ => rfl) (fun _ _ _ _ _ => trivial) tw470 (by decide +kernel)) ?_
  refine ak (ok_if_le (off := 37) (by decide) (by decide +kernel)) ?_
  refine ak (ok_aload_n (k := 0) rfl (by decide +kernel)) ?_
  refine ak (ok_get (k := 1) ck5 kd19 (by decide) (fun _ _ _ => rfl) (fun _ _ _ _ _ => trivial) tw470 (by decide +kernel)) ?_
  refine ak (ok_iconst (n := 3) (by decide) (by decide +kernel)) ?_
  refine ak (ok_irem (by decide +kernel)) ?_
  refine ak (ok_if_ne (off := 28) (by decide) (by decide +kernel)) ?_
  refine ak (ok_aload_n (k := 0) rfl (by decide +kernel)) ?_
  refine ak (ok_get (k := 1) ck5 kd19 (by decide) (fun _ _ _ => rfl) (fun _ _ _ _ _ => trivial) tw470 (by decide +kernel)) ?_
  refine ak (ok_iconst (n := 3) (by decide) (by decide +kernel)) ?_
  refine ak (ok_idiv (by decide +kernel)) ?_
  refine ak (ok_iload_n (k := 1) rfl (by decide +kernel)) ?_
  refine ak (ok_icmp_gt (off := 18) (by decide) (by decide +kernel)) ?_
  refine ak (ok_aload_n (k := 0) rfl (by decide +kernel)) ?_
  refine ak (ok_iconst (n := 0) (by decide) (by decide +kernel)) ?_
  refine ak (ok_sipush (n := 9999) (by decide) (by decide +kernel)) ?_
  refine ak (ok_invV (r := 19) (kS_allWithin hsd l) qS_allWithin ck5 kd19 iS_allWithin tw923 tw924 (by decide) tw978 (by decide +kernel)) ?_
  refine ak (ok_if_eq (off := 7) (by decide) (by decide +kernel)) ?_
  refine ak (ok_iconst (n := 1) (by decide) (by decide +kernel)) ?_
  refine ak (ok_goto (off := 4) (by decide) (by decide +kernel)) ?_
  refine ak (ok_iconst (n := 0) (by decide) (by decide +kernel)) ?_
  refine ak (ok_zreturn rfl (by decide +kernel)) ?_
  exact trivial
set_option maxRecDepth 1000000 in
theorem eS_inThrees (i0 : Nat) (x1 : Int32) (M : Mem) : run (cS_inThrees) (fun _ _ _ _ => none) rtI 400 (seek (cS_inThrees) 0) [aR (19, 0, i0), aI x1] [] M = mS_inThrees i0 x1 M := id rfl
theorem lS_inThrees {E : EV} {l : Launch} {p : Program} {e : Env} {s : State} {m : MethodId} {args : Array Value} {below : List Frame} {meth : Method} {c : Code} (A : AllOK E l 3 "FreeLances$Sheet" prog_7_method_7_code 2 (some .boolean) outI (cS_inThrees)) (C : Cx E p s m args meth c "FreeLances$Sheet" prog_7_method_7_code 2 (some .boolean)) : ∀ (i0 : Nat) (x1 : Int32) (M : Mem) (res : (Int32 × Mem)), mS_inThrees i0 x1 M = some res → Wm E p l e 3 s m args below meth c 2 0 [aR (19, 0, i0), aI x1] [] M (outI res).1 (outI res).2 := by
  intro i0 x1 M res h
  refine run_at C A rfl hrtI (n := 400) ((eS_inThrees i0 x1 M).trans h) ?_
  intro t als st M hk; cases hk
def dS_inThrees {β : Type} : Den β := fun as M k => match as with
  | [.inr (.inr (.inl (al0, bl0, i0))), .inl x1] => if al0 = 19 ∧ bl0 = 0 then (mS_inThrees i0 x1 M).bind fun q => k (aI q.1) q.2 else none
  | _ => none
theorem wS_inThrees {E : EV} (hsd : E.2.2.2 = 0) (l : Launch) (i0 : Nat) (x1 : Int32) (M : Mem) (q : (Int32 × Mem)) (hq : mS_inThrees i0 x1 M = some q) : Con E l 3 yS_inThrees prog_7_method_7_code 2 (some .boolean) [aR (19, 0, i0), aI x1] M (outI q).1 (outI q).2 := by
  refine con_of iS_inThrees (Nat.le_of_ble_eq_true rfl) ?_
  intro p e s m args below meth c C
  exact lS_inThrees (oS_inThrees hsd l) C i0 x1 M _ hq
theorem kS_inThrees {E : EV} (hsd : E.2.2.2 = 0) (l : Launch) {β : Type} : DenOK E l 3 yS_inThrees prog_7_method_7_code 2 (some .boolean) true (dS_inThrees (β := β)) := by
  intro as M k res h
  unfold dS_inThrees at h
  split at h
  ·
    split at h
    · rename_i hc
      obtain ⟨rfl, rfl⟩ := hc
      obtain ⟨q, hq, hk⟩ := Option.bind_eq_some_iff.mp h
      exact ⟨aI q.1, q.2, hk, rfl, wS_inThrees hsd l _ _ M q hq⟩
    · cases h
  · cases h
theorem qS_inThrees {β : Type} : RecOK 19 (dS_inThrees (β := β)) := by
  intro as M k res h
  unfold dS_inThrees at h
  split at h
  ·
    split at h
    · rename_i hc
      obtain ⟨rfl, rfl⟩ := hc
      exact ⟨_, _, _, rfl⟩
    · cases h
  · cases h
/-! ===== FreeLances$Plans.costOfWay([IIII)I ===== -/
abbrev yP_costOfWay : MethodName := ⟨"FreeLances$Plans", "costOfWay", "([IIII)I"⟩
theorem iP_costOfWay : MI yP_costOfWay prog_5_method_3_code 9 (some .int) 4 := ⟨tw986, tw107, ⟨by decide, by decide⟩, by decide +kernel, by decide, by decide⟩
def cP_costOfWay : List (Ent (Int32 × Mem)) := [(false, 0, 1, sC 0),
  (false, 1, 2, sStI 5),
  (false, 3, 1, sC 0),
  (false, 4, 2, sStI 6),
  (false, 6, 1, sC 0),
  (false, 7, 2, sStI 7),
  (false, 9, 1, sC 0),
  (false, 10, 2, sStI 8),
  (true, 12, 2, sLdI 8),
  (false, 14, 1, sLdI 2),
  (false, 15, 3, sCmpGe 81),
  (false, 18, 2, sLdI 4),
  (false, 20, 1, sLdI 2),
  (false, 21, 1, sC 1),
  (false, 22, 1, sBin (fun x y => x - y)),
  (false, 23, 2, sLdI 8),
  (false, 25, 1, sBin (fun x y => x - y)),
  (false, 26, 1, sBin (fun x y => x >>> (y &&& 31))),
  (false, 27, 1, sC 1),
  (false, 28, 1, sBin (fun x y => x &&& y)),
  (false, 29, 3, sIfNe 48),
  (false, 32, 2, sLdI 7),
  (false, 34, 1, sLdA 1),
  (false, 35, 1, sC 3),
  (false, 36, 2, sLdI 8),
  (false, 38, 1, sBin (fun x y => x * y)),
  (false, 39, 1, sC 1),
  (false, 40, 1, sBin (fun x y => x + y)),
  (false, 41, 1, sIald 20 24),
  (false, 42, 1, sBin (fun x y => x + y)),
  (false, 43, 2, sStI 7),
  (false, 45, 3, sGoto 75),
  (false, 48, 2, sLdI 6),
  (false, 50, 1, sLdA 1),
  (false, 51, 1, sC 3),
  (false, 52, 2, sLdI 8),
  (false, 54, 1, sBin (fun x y => x * y)),
  (false, 55, 1, sIald 20 24),
  (false, 56, 2, sLdI 5),
  (false, 58, 1, sBin (fun x y => x + y)),
  (false, 59, 1, sBin (fun x y => x + y)),
  (false, 60, 2, sStI 6),
  (false, 62, 2, sLdI 5),
  (false, 64, 1, sLdA 1),
  (false, 65, 1, sC 3),
  (false, 66, 2, sLdI 8),
  (false, 68, 1, sBin (fun x y => x * y)),
  (false, 69, 1, sC 2),
  (false, 70, 1, sBin (fun x y => x + y)),
  (false, 71, 1, sIald 20 24),
  (false, 72, 1, sBin (fun x y => x + y)),
  (false, 73, 2, sStI 5),
  (false, 75, 3, sInc 8 1),
  (false, 78, 3, sGoto 12),
  (false, 81, 2, sLdI 6),
  (false, 83, 1, sLdI 3),
  (false, 84, 3, sCmpGt 95),
  (false, 87, 2, sLdI 6),
  (false, 89, 2, sLdI 7),
  (false, 91, 1, sBin (fun x y => x + y)),
  (false, 92, 3, sGoto 96),
  (false, 95, 1, sC (-1)),
  (false, 96, 1, sRetI)]
theorem oP_costOfWay {E : EV} (hsd : E.2.2.2 = 0) (l : Launch) : AllOK E l 1 "FreeLances$Plans" prog_5_method_3_code 9 (some .int) outI (cP_costOfWay) := by
  refine ak (ok_iconst (n := 0) (by decide) (by decide +kernel)) ?_
  refine ak (ok_istore (by decide) (by decide +kernel)) ?_
  refine ak (ok_iconst (n := 0) (by decide) (by decide +kernel)) ?_
  refine ak (ok_istore (by decide) (by decide +kernel)) ?_
  refine ak (ok_iconst (n := 0) (by decide) (by decide +kernel)) ?_
  refine ak (ok_istore (by decide) (by decide +kernel)) ?_
  refine ak (ok_iconst (n := 0) (by decide) (by decide +kernel)) ?_
  refine ak (ok_istore (by decide) (by decide +kernel)) ?_
  refine ak (ok_iload (by decide +kernel)) ?_
  refine ak (ok_iload_n (k := 2) rfl (by decide +kernel)) ?_
  refine ak (ok_icmp_ge (off := 66) (by decide) (by decide +kernel)) ?_
  refine ak (ok_iload (by decide +kernel)) ?_
  refine ak (ok_iload_n (k := 2) rfl (by decide +kernel)) ?_
  refine ak (ok_iconst (n := 1) (by decide) (by decide +kernel)) ?_
  refine ak (ok_isub (by decide +kernel)) ?_
  refine ak (ok_iload (by decide +kernel)) ?_
  refine ak (ok_isub (by decide +kernel)) ?_
  refine ak (ok_ishr (by decide +kernel)) ?_
  refine ak (ok_iconst (n := 1) (by decide) (by decide +kernel)) ?_
  refine ak (ok_iand (by decide +kernel)) ?_
  refine ak (ok_if_ne (off := 19) (by decide) (by decide +kernel)) ?_
  refine ak (ok_iload (by decide +kernel)) ?_
  refine ak (ok_aload_n (k := 1) rfl (by decide +kernel)) ?_
  refine ak (ok_iconst (n := 3) (by decide) (by decide +kernel)) ?_
  refine ak (ok_iload (by decide +kernel)) ?_
  refine ak (ok_imul (by decide +kernel)) ?_
  refine ak (ok_iconst (n := 1) (by decide) (by decide +kernel)) ?_
  refine ak (ok_iadd (by decide +kernel)) ?_
  refine ak (ok_iald kd20 (by decide) (by decide +kernel)) ?_
  refine ak (ok_iadd (by decide +kernel)) ?_
  refine ak (ok_istore (by decide) (by decide +kernel)) ?_
  refine ak (ok_goto (off := 30) (by decide) (by decide +kernel)) ?_
  refine ak (ok_iload (by decide +kernel)) ?_
  refine ak (ok_aload_n (k := 1) rfl (by decide +kernel)) ?_
  refine ak (ok_iconst (n := 3) (by decide) (by decide +kernel)) ?_
  refine ak (ok_iload (by decide +kernel)) ?_
  refine ak (ok_imul (by decide +kernel)) ?_
  refine ak (ok_iald kd20 (by decide) (by decide +kernel)) ?_
  refine ak (ok_iload (by decide +kernel)) ?_
  refine ak (ok_iadd (by decide +kernel)) ?_
  refine ak (ok_iadd (by decide +kernel)) ?_
  refine ak (ok_istore (by decide) (by decide +kernel)) ?_
  refine ak (ok_iload (by decide +kernel)) ?_
  refine ak (ok_aload_n (k := 1) rfl (by decide +kernel)) ?_
  refine ak (ok_iconst (n := 3) (by decide) (by decide +kernel)) ?_
  refine ak (ok_iload (by decide +kernel)) ?_
  refine ak (ok_imul (by decide +kernel)) ?_
  refine ak (ok_iconst (n := 2) (by decide) (by decide +kernel)) ?_
  refine ak (ok_iadd (by decide +kernel)) ?_
  refine ak (ok_iald kd20 (by decide) (by decide +kernel)) ?_
  refine ak (ok_iadd (by decide +kernel)) ?_
  refine ak (ok_istore (by decide) (by decide +kernel)) ?_
  refine ak (ok_iinc (n := 1) (by decide) (by decide) (by decide +kernel)) ?_
  refine ak (ok_goto (off := (-66)) (by decide) (by decide +kernel)) ?_
  refine ak (ok_iload (by decide +kernel)) ?_
  refine ak (ok_iload_n (k := 3) rfl (by decide +kernel)) ?_
  refine ak (ok_icmp_gt (off := 11) (by decide) (by decide +kernel)) ?_
  refine ak (ok_iload (by decide +kernel)) ?_
  refine ak (ok_iload (by decide +kernel)) ?_
  refine ak (ok_iadd (by decide +kernel)) ?_
  refine ak (ok_goto (off := 4) (by decide) (by decide +kernel)) ?_
  refine ak (ok_iconst (n := (-1)) (by decide) (by decide +kernel)) ?_
  refine ak (ok_ireturn rfl (by decide +kernel)) ?_
  exact trivial
def KP_costOfWay_12 (j12 : Nat → Int32 → Int32 → Int32 → Int32 → Int32 → Int32 → Int32 → Mem → Option (Int32 × Mem)) : Jm (Int32 × Mem) := fun t als st M =>
  if t = 12 then (match als, st with
  | [_, .inr (.inr (.inl (al1, bl1, i1))), .inl x2, .inl x3, .inl x4, .inl x5, .inl x6, .inl x7, .inl x8], [] => if al1 = 20 ∧ bl1 = 0 then j12 i1 x2 x3 x4 x5 x6 x7 x8 M else none
  | _, _ => none) else
  none
set_option maxRecDepth 1000000 in
theorem eP_costOfWay_12 (j12 : Nat → Int32 → Int32 → Int32 → Int32 → Int32 → Int32 → Int32 → Mem → Option (Int32 × Mem)) (i1 : Nat) (x2 : Int32) (x3 : Int32) (x4 : Int32) (x5 : Int32) (x6 : Int32) (x7 : Int32) (x8 : Int32) (M : Mem) (u0 : AV) : run (cP_costOfWay) (KP_costOfWay_12 j12) rtI 400 (seek (cP_costOfWay) 12) [u0, aR (20, 0, i1), aI x2, aI x3, aI x4, aI x5, aI x6, aI x7, aI x8] [] M = mP_costOfWay_12b j12 i1 x2 x3 x4 x5 x6 x7 x8 M := id rfl
theorem lP_costOfWay_12 {E : EV} {l : Launch} {p : Program} {e : Env} {s : State} {m : MethodId} {args : Array Value} {below : List Frame} {meth : Method} {c : Code} (A : AllOK E l 1 "FreeLances$Plans" prog_5_method_3_code 9 (some .int) outI (cP_costOfWay)) (C : Cx E p s m args meth c "FreeLances$Plans" prog_5_method_3_code 9 (some .int)) : ∀ (n : Nat), ∀ (i1 : Nat) (x2 : Int32) (x3 : Int32) (x4 : Int32) (x5 : Int32) (x6 : Int32) (x7 : Int32) (x8 : Int32) (M : Mem) (res : (Int32 × Mem)), mP_costOfWay_12 n i1 x2 x3 x4 x5 x6 x7 x8 M = some res → ∀ (u0 : AV), Wm E p l e 1 s m args below meth c 9 12 [u0, aR (20, 0, i1), aI x2, aI x3, aI x4, aI x5, aI x6, aI x7, aI x8] [] M (outI res).1 (outI res).2 := by
  intro n
  induction n with
  | zero => intro _ _ _ _ _ _ _ _ M res h; cases h
  | succ n ih =>
    intro i1 x2 x3 x4 x5 x6 x7 x8 M res h u0
    refine run_at C A rfl hrtI (n := 400) ((eP_costOfWay_12 (mP_costOfWay_12 n) i1 x2 x3 x4 x5 x6 x7 x8 M u0).trans h) ?_
    intro t als st M hk
    unfold KP_costOfWay_12 at hk
    split at hk
    · rename_i ht
      subst ht
      split at hk
      · split at hk
        · rename_i hc
          obtain ⟨rfl, rfl⟩ := hc
          exact ih _ _ _ _ _ _ _ _ _ _ hk _
        · cases hk
      · cases hk
    cases hk
def KP_costOfWay (j12 : Nat → Int32 → Int32 → Int32 → Int32 → Int32 → Int32 → Int32 → Mem → Option (Int32 × Mem)) : Jm (Int32 × Mem) := fun t als st M =>
  if t = 12 then (match als, st with
  | [_, .inr (.inr (.inl (al1, bl1, i1))), .inl x2, .inl x3, .inl x4, .inl x5, .inl x6, .inl x7, .inl x8], [] => if al1 = 20 ∧ bl1 = 0 then j12 i1 x2 x3 x4 x5 x6 x7 x8 M else none
  | _, _ => none) else
  none
set_option maxRecDepth 1000000 in
theorem eP_costOfWay (j12 : Nat → Int32 → Int32 → Int32 → Int32 → Int32 → Int32 → Int32 → Mem → Option (Int32 × Mem)) (i1 : Nat) (x2 : Int32) (x3 : Int32) (x4 : Int32) (M : Mem) : run (cP_costOfWay) (KP_costOfWay j12) rtI 400 (seek (cP_costOfWay) 0) [aR (23, 0, 0), aR (20, 0, i1), aI x2, aI x3, aI x4, aU, aU, aU, aU] [] M = mP_costOfWayb j12 i1 x2 x3 x4 M := id rfl
theorem lP_costOfWay {E : EV} {l : Launch} {p : Program} {e : Env} {s : State} {m : MethodId} {args : Array Value} {below : List Frame} {meth : Method} {c : Code} (A : AllOK E l 1 "FreeLances$Plans" prog_5_method_3_code 9 (some .int) outI (cP_costOfWay)) (C : Cx E p s m args meth c "FreeLances$Plans" prog_5_method_3_code 9 (some .int)) : ∀ (i1 : Nat) (x2 : Int32) (x3 : Int32) (x4 : Int32) (M : Mem) (res : (Int32 × Mem)), mP_costOfWay i1 x2 x3 x4 M = some res → Wm E p l e 1 s m args below meth c 9 0 [aR (23, 0, 0), aR (20, 0, i1), aI x2, aI x3, aI x4, aU, aU, aU, aU] [] M (outI res).1 (outI res).2 := by
  intro i1 x2 x3 x4 M res h
  refine run_at C A rfl hrtI (n := 400) ((eP_costOfWay (mP_costOfWay_12 fuel) i1 x2 x3 x4 M).trans h) ?_
  intro t als st M hk
  unfold KP_costOfWay at hk
  split at hk
  · rename_i ht
    subst ht
    split at hk
    · split at hk
      · rename_i hc
        obtain ⟨rfl, rfl⟩ := hc
        exact lP_costOfWay_12 A C _ _ _ _ _ _ _ _ _ _ _ hk _
      · cases hk
    · cases hk
  cases hk
def dP_costOfWay {β : Type} : Den β := fun as M k => match as with
  | [.inr (.inr (.inl (al0, bl0, cl0))), .inr (.inr (.inl (al1, bl1, i1))), .inl x2, .inl x3, .inl x4] => if al0 = 23 ∧ bl0 = 0 ∧ cl0 = 0 ∧ al1 = 20 ∧ bl1 = 0 then (mP_costOfWay i1 x2 x3 x4 M).bind fun q => k (aI q.1) q.2 else none
  | _ => none
theorem wP_costOfWay {E : EV} (hsd : E.2.2.2 = 0) (l : Launch) (i1 : Nat) (x2 : Int32) (x3 : Int32) (x4 : Int32) (M : Mem) (q : (Int32 × Mem)) (hq : mP_costOfWay i1 x2 x3 x4 M = some q) : Con E l 1 yP_costOfWay prog_5_method_3_code 9 (some .int) [aR (23, 0, 0), aR (20, 0, i1), aI x2, aI x3, aI x4] M (outI q).1 (outI q).2 := by
  refine con_of iP_costOfWay (Nat.le_of_ble_eq_true rfl) ?_
  intro p e s m args below meth c C
  exact lP_costOfWay (oP_costOfWay hsd l) C i1 x2 x3 x4 M _ hq
theorem kP_costOfWay {E : EV} (hsd : E.2.2.2 = 0) (l : Launch) {β : Type} : DenOK E l 1 yP_costOfWay prog_5_method_3_code 9 (some .int) true (dP_costOfWay (β := β)) := by
  intro as M k res h
  unfold dP_costOfWay at h
  split at h
  ·
    split at h
    · rename_i hc
      obtain ⟨rfl, rfl, rfl, rfl, rfl⟩ := hc
      obtain ⟨q, hq, hk⟩ := Option.bind_eq_some_iff.mp h
      exact ⟨aI q.1, q.2, hk, rfl, wP_costOfWay hsd l _ _ _ _ M q hq⟩
    · cases h
  · cases h
theorem qP_costOfWay {β : Type} : RecOK 23 (dP_costOfWay (β := β)) := by
  intro as M k res h
  unfold dP_costOfWay at h
  split at h
  ·
    split at h
    · rename_i hc
      obtain ⟨rfl, rfl, rfl, rfl, rfl⟩ := hc
      exact ⟨_, _, _, rfl⟩
    · cases h
  · cases h
/-! ===== FreeLances$Plans.cheapestWay([III)I ===== -/
abbrev yP_cheapestWay : MethodName := ⟨"FreeLances$Plans", "cheapestWay", "([III)I"⟩
theorem iP_cheapestWay : MI yP_cheapestWay prog_5_method_2_code 8 (some .int) 3 := ⟨tw982, tw107, ⟨by decide, by decide⟩, by decide +kernel, by decide, by decide⟩
def cP_cheapestWay : List (Ent (Int32 × Mem)) := [(false, 0, 1, sC 0),
  (false, 1, 2, sStI 4),
  (false, 3, 1, sLdA 0),
  (false, 4, 1, sLdA 1),
  (false, 5, 1, sLdI 2),
  (false, 6, 1, sLdI 3),
  (false, 7, 1, sC 0),
  (false, 8, 3, sInv 5 true dP_costOfWay),
  (false, 11, 2, sStI 5),
  (false, 13, 1, sC 1),
  (false, 14, 2, sStI 6),
  (true, 16, 2, sLdI 6),
  (false, 18, 1, sC 1),
  (false, 19, 1, sLdI 2),
  (false, 20, 1, sBin (fun x y => x <<< (y &&& 31))),
  (false, 21, 3, sCmpGe 61),
  (false, 24, 1, sLdA 0),
  (false, 25, 1, sLdA 1),
  (false, 26, 1, sLdI 2),
  (false, 27, 1, sLdI 3),
  (false, 28, 2, sLdI 6),
  (false, 30, 3, sInv 5 true dP_costOfWay),
  (false, 33, 2, sStI 7),
  (false, 35, 2, sLdI 7),
  (false, 37, 3, sIfLt 55),
  (false, 40, 2, sLdI 7),
  (false, 42, 2, sLdI 5),
  (false, 44, 3, sCmpGe 55),
  (false, 47, 2, sLdI 7),
  (false, 49, 2, sStI 5),
  (false, 51, 2, sLdI 6),
  (false, 53, 2, sStI 4),
  (false, 55, 3, sInc 6 1),
  (false, 58, 3, sGoto 16),
  (false, 61, 2, sLdI 4),
  (false, 63, 1, sRetI)]
theorem oP_cheapestWay {E : EV} (hsd : E.2.2.2 = 0) (l : Launch) : AllOK E l 2 "FreeLances$Plans" prog_5_method_2_code 8 (some .int) outI (cP_cheapestWay) := by
  refine ak (ok_iconst (n := 0) (by decide) (by decide +kernel)) ?_
  refine ak (ok_istore (by decide) (by decide +kernel)) ?_
  refine ak (ok_aload_n (k := 0) rfl (by decide +kernel)) ?_
  refine ak (ok_aload_n (k := 1) rfl (by decide +kernel)) ?_
  refine ak (ok_iload_n (k := 2) rfl (by decide +kernel)) ?_
  refine ak (ok_iload_n (k := 3) rfl (by decide +kernel)) ?_
  refine ak (ok_iconst (n := 0) (by decide) (by decide +kernel)) ?_
  refine ak (ok_invV (r := 23) (kP_costOfWay hsd l) qP_costOfWay ck3 kd23 iP_costOfWay tw984 tw985 (by decide) tw983 (by decide +kernel)) ?_
  refine ak (ok_istore (by decide) (by decide +kernel)) ?_
  refine ak (ok_iconst (n := 1) (by decide) (by decide +kernel)) ?_
  refine ak (ok_istore (by decide) (by decide +kernel)) ?_
  refine ak (ok_iload (by decide +kernel)) ?_
  refine ak (ok_iconst (n := 1) (by decide) (by decide +kernel)) ?_
  refine ak (ok_iload_n (k := 2) rfl (by decide +kernel)) ?_
  refine ak (ok_ishl (by decide +kernel)) ?_
  refine ak (ok_icmp_ge (off := 40) (by decide) (by decide +kernel)) ?_
  refine ak (ok_aload_n (k := 0) rfl (by decide +kernel)) ?_
  refine ak (ok_aload_n (k := 1) rfl (by decide +kernel)) ?_
  refine ak (ok_iload_n (k := 2) rfl (by decide +kernel)) ?_
  refine ak (ok_iload_n (k := 3) rfl (by decide +kernel)) ?_
  refine ak (ok_iload (by decide +kernel)) ?_
  refine ak (ok_invV (r := 23) (kP_costOfWay hsd l) qP_costOfWay ck3 kd23 iP_costOfWay tw984 tw985 (by decide) tw983 (by decide +kernel)) ?_
  refine ak (ok_istore (by decide) (by decide +kernel)) ?_
  refine ak (ok_iload (by decide +kernel)) ?_
  refine ak (ok_if_lt (off := 18) (by decide) (by decide +kernel)) ?_
  refine ak (ok_iload (by decide +kernel)) ?_
  refine ak (ok_iload (by decide +kernel)) ?_
  refine ak (ok_icmp_ge (off := 11) (by decide) (by decide +kernel)) ?_
  refine ak (ok_iload (by decide +kernel)) ?_
  refine ak (ok_istore (by decide) (by decide +kernel)) ?_
  refine ak (ok_iload (by decide +kernel)) ?_
  refine ak (ok_istore (by decide) (by decide +kernel)) ?_
  refine ak (ok_iinc (n := 1) (by decide) (by decide) (by decide +kernel)) ?_
  refine ak (ok_goto (off := (-42)) (by decide) (by decide +kernel)) ?_
  refine ak (ok_iload (by decide +kernel)) ?_
  refine ak (ok_ireturn rfl (by decide +kernel)) ?_
  exact trivial
def KP_cheapestWay_16 (j16 : Nat → Int32 → Int32 → Int32 → Int32 → Int32 → Mem → Option (Int32 × Mem)) : Jm (Int32 × Mem) := fun t als st M =>
  if t = 16 then (match als, st with
  | [.inr (.inr (.inl (al0, bl0, cl0))), .inr (.inr (.inl (al1, bl1, i1))), .inl x2, .inl x3, .inl x4, .inl x5, .inl x6, _], [] => if al0 = 23 ∧ bl0 = 0 ∧ cl0 = 0 ∧ al1 = 20 ∧ bl1 = 0 then j16 i1 x2 x3 x4 x5 x6 M else none
  | _, _ => none) else
  none
set_option maxRecDepth 1000000 in
theorem eP_cheapestWay_16 (j16 : Nat → Int32 → Int32 → Int32 → Int32 → Int32 → Mem → Option (Int32 × Mem)) (i1 : Nat) (x2 : Int32) (x3 : Int32) (x4 : Int32) (x5 : Int32) (x6 : Int32) (M : Mem) (u7 : AV) : run (cP_cheapestWay) (KP_cheapestWay_16 j16) rtI 400 (seek (cP_cheapestWay) 16) [aR (23, 0, 0), aR (20, 0, i1), aI x2, aI x3, aI x4, aI x5, aI x6, u7] [] M = mP_cheapestWay_16b j16 i1 x2 x3 x4 x5 x6 M := id rfl
theorem lP_cheapestWay_16 {E : EV} {l : Launch} {p : Program} {e : Env} {s : State} {m : MethodId} {args : Array Value} {below : List Frame} {meth : Method} {c : Code} (A : AllOK E l 2 "FreeLances$Plans" prog_5_method_2_code 8 (some .int) outI (cP_cheapestWay)) (C : Cx E p s m args meth c "FreeLances$Plans" prog_5_method_2_code 8 (some .int)) : ∀ (n : Nat), ∀ (i1 : Nat) (x2 : Int32) (x3 : Int32) (x4 : Int32) (x5 : Int32) (x6 : Int32) (M : Mem) (res : (Int32 × Mem)), mP_cheapestWay_16 n i1 x2 x3 x4 x5 x6 M = some res → ∀ (u7 : AV), Wm E p l e 2 s m args below meth c 8 16 [aR (23, 0, 0), aR (20, 0, i1), aI x2, aI x3, aI x4, aI x5, aI x6, u7] [] M (outI res).1 (outI res).2 := by
  intro n
  induction n with
  | zero => intro _ _ _ _ _ _ M res h; cases h
  | succ n ih =>
    intro i1 x2 x3 x4 x5 x6 M res h u7
    refine run_at C A rfl hrtI (n := 400) ((eP_cheapestWay_16 (mP_cheapestWay_16 n) i1 x2 x3 x4 x5 x6 M u7).trans h) ?_
    intro t als st M hk
    unfold KP_cheapestWay_16 at hk
    split at hk
    · rename_i ht
      subst ht
      split at hk
      · split at hk
        · rename_i hc
          obtain ⟨rfl, rfl, rfl, rfl, rfl⟩ := hc
          exact ih _ _ _ _ _ _ _ _ hk _
        · cases hk
      · cases hk
    cases hk
def KP_cheapestWay (j16 : Nat → Int32 → Int32 → Int32 → Int32 → Int32 → Mem → Option (Int32 × Mem)) : Jm (Int32 × Mem) := fun t als st M =>
  if t = 16 then (match als, st with
  | [.inr (.inr (.inl (al0, bl0, cl0))), .inr (.inr (.inl (al1, bl1, i1))), .inl x2, .inl x3, .inl x4, .inl x5, .inl x6, _], [] => if al0 = 23 ∧ bl0 = 0 ∧ cl0 = 0 ∧ al1 = 20 ∧ bl1 = 0 then j16 i1 x2 x3 x4 x5 x6 M else none
  | _, _ => none) else
  none
set_option maxRecDepth 1000000 in
theorem eP_cheapestWay (j16 : Nat → Int32 → Int32 → Int32 → Int32 → Int32 → Mem → Option (Int32 × Mem)) (i1 : Nat) (x2 : Int32) (x3 : Int32) (M : Mem) : run (cP_cheapestWay) (KP_cheapestWay j16) rtI 400 (seek (cP_cheapestWay) 0) [aR (23, 0, 0), aR (20, 0, i1), aI x2, aI x3, aU, aU, aU, aU] [] M = mP_cheapestWayb j16 i1 x2 x3 M := id rfl
theorem lP_cheapestWay {E : EV} {l : Launch} {p : Program} {e : Env} {s : State} {m : MethodId} {args : Array Value} {below : List Frame} {meth : Method} {c : Code} (A : AllOK E l 2 "FreeLances$Plans" prog_5_method_2_code 8 (some .int) outI (cP_cheapestWay)) (C : Cx E p s m args meth c "FreeLances$Plans" prog_5_method_2_code 8 (some .int)) : ∀ (i1 : Nat) (x2 : Int32) (x3 : Int32) (M : Mem) (res : (Int32 × Mem)), mP_cheapestWay i1 x2 x3 M = some res → Wm E p l e 2 s m args below meth c 8 0 [aR (23, 0, 0), aR (20, 0, i1), aI x2, aI x3, aU, aU, aU, aU] [] M (outI res).1 (outI res).2 := by
  intro i1 x2 x3 M res h
  refine run_at C A rfl hrtI (n := 400) ((eP_cheapestWay (mP_cheapestWay_16 fuel) i1 x2 x3 M).trans h) ?_
  intro t als st M hk
  unfold KP_cheapestWay at hk
  split at hk
  · rename_i ht
    subst ht
    split at hk
    · split at hk
      · rename_i hc
        obtain ⟨rfl, rfl, rfl, rfl, rfl⟩ := hc
        exact lP_cheapestWay_16 A C _ _ _ _ _ _ _ _ _ hk _
      · cases hk
    · cases hk
  cases hk
def dP_cheapestWay {β : Type} : Den β := fun as M k => match as with
  | [.inr (.inr (.inl (al0, bl0, cl0))), .inr (.inr (.inl (al1, bl1, i1))), .inl x2, .inl x3] => if al0 = 23 ∧ bl0 = 0 ∧ cl0 = 0 ∧ al1 = 20 ∧ bl1 = 0 then (mP_cheapestWay i1 x2 x3 M).bind fun q => k (aI q.1) q.2 else none
  | _ => none
theorem wP_cheapestWay {E : EV} (hsd : E.2.2.2 = 0) (l : Launch) (i1 : Nat) (x2 : Int32) (x3 : Int32) (M : Mem) (q : (Int32 × Mem)) (hq : mP_cheapestWay i1 x2 x3 M = some q) : Con E l 2 yP_cheapestWay prog_5_method_2_code 8 (some .int) [aR (23, 0, 0), aR (20, 0, i1), aI x2, aI x3] M (outI q).1 (outI q).2 := by
  refine con_of iP_cheapestWay (Nat.le_of_ble_eq_true rfl) ?_
  intro p e s m args below meth c C
  exact lP_cheapestWay (oP_cheapestWay hsd l) C i1 x2 x3 M _ hq
theorem kP_cheapestWay {E : EV} (hsd : E.2.2.2 = 0) (l : Launch) {β : Type} : DenOK E l 2 yP_cheapestWay prog_5_method_2_code 8 (some .int) true (dP_cheapestWay (β := β)) := by
  intro as M k res h
  unfold dP_cheapestWay at h
  split at h
  ·
    split at h
    · rename_i hc
      obtain ⟨rfl, rfl, rfl, rfl, rfl⟩ := hc
      obtain ⟨q, hq, hk⟩ := Option.bind_eq_some_iff.mp h
      exact ⟨aI q.1, q.2, hk, rfl, wP_cheapestWay hsd l _ _ _ M q hq⟩
    · cases h
  · cases h
theorem qP_cheapestWay {β : Type} : RecOK 23 (dP_cheapestWay (β := β)) := by
  intro as M k res h
  unfold dP_cheapestWay at h
  split at h
  ·
    split at h
    · rename_i hc
      obtain ⟨rfl, rfl, rfl, rfl, rfl⟩ := hc
      exact ⟨_, _, _, rfl⟩
    · cases h
  · cases h
/-! ===== FreeLances.ask(III)I ===== -/
abbrev yF_ask : MethodName := ⟨"FreeLances", "ask", "(III)I"⟩
theorem iF_ask : MI yF_ask prog_1_method_37_code 8 (some .int) 3 := ⟨tw973, tw97, ⟨by decide, by decide⟩, by decide +kernel, by decide, by decide⟩
def cF_ask : List (Ent (Int32 × Mem)) := [(false, 0, 1, sLdA 0),
  (false, 1, 1, sLdI 1),
  (false, 2, 3, sInv 2 true dF_isTown),
  (false, 5, 3, sIfEq 15),
  (false, 8, 1, sLdI 2),
  (false, 9, 3, sInv 1 true dF_isSheet),
  (false, 12, 3, sIfNe 21),
  (false, 15, 1, sLdA 0),
  (false, 16, 1, sC 1),
  (false, 17, 3, sInv 2 true dF_finding),
  (false, 20, 1, sRetI),
  (false, 21, 1, sLdA 0),
  (false, 22, 3, sGet 0 (fun w i M => aR (18, 0, 0))),
  (false, 25, 1, sLdI 2),
  (false, 26, 1, sAald 18 4 19),
  (false, 27, 2, sStA 4),
  (false, 29, 2, sLdA 4),
  (false, 31, 3, sInv 1 true dS_missing),
  (false, 34, 3, sIfEq 43),
  (false, 37, 1, sLdA 0),
  (false, 38, 1, sC 2),
  (false, 39, 3, sInv 2 true dF_finding),
  (false, 42, 1, sRetI),
  (false, 43, 2, sLdA 4),
  (false, 45, 1, sC 4),
  (false, 46, 3, sInv 2 true dS_inThrees),
  (false, 49, 3, sIfNe 58),
  (false, 52, 1, sLdA 0),
  (false, 53, 1, sC 5),
  (false, 54, 3, sInv 2 true dF_finding),
  (false, 57, 1, sRetI),
  (false, 58, 2, sLdA 4),
  (false, 60, 3, sGet 19 (fun w i M => aI (M 19 w i 1))),
  (false, 63, 1, sC 3),
  (false, 64, 1, sBin0 (fun x y => x / y)),
  (false, 65, 2, sStI 5),
  (false, 67, 1, sLdI 3),
  (false, 68, 1, sC (-1)),
  (false, 69, 2, sLdI 5),
  (false, 71, 1, sC 1),
  (false, 72, 1, sBin (fun x y => x - y)),
  (false, 73, 3, sInv 3 true dF_within),
  (false, 76, 3, sIfNe 85),
  (false, 79, 1, sLdA 0),
  (false, 80, 1, sC 1),
  (false, 81, 3, sInv 2 true dF_finding),
  (false, 84, 1, sRetI),
  (false, 85, 1, sLdA 0),
  (false, 86, 3, sGet 0 (fun w i M => aR (1, 0, 0))),
  (false, 89, 3, sGet 1 (fun w i M => aR (2, w, 0))),
  (false, 92, 1, sLdI 1),
  (false, 93, 1, sAald 2 8 3),
  (false, 94, 3, sGet 3 (fun w i M => aI (M 3 w i 0))),
  (false, 97, 2, sStI 6),
  (false, 99, 1, sLdA 0),
  (false, 100, 3, sGet 0 (fun w i M => aR (23, 0, 0))),
  (false, 103, 2, sLdA 4),
  (false, 105, 3, sGet 19 (fun w i M => aR (20, w, i))),
  (false, 108, 2, sLdI 5),
  (false, 110, 2, sLdI 6),
  (false, 112, 3, sInv 4 true dP_cheapestWay),
  (false, 115, 2, sStI 7),
  (false, 117, 1, sLdI 3),
  (false, 118, 3, sIfGe 142),
  (false, 121, 1, sLdA 0),
  (false, 122, 3, sGet 0 (fun w i M => aR (23, 0, 0))),
  (false, 125, 2, sLdA 4),
  (false, 127, 3, sGet 19 (fun w i M => aR (20, w, i))),
  (false, 130, 2, sLdI 5),
  (false, 132, 2, sLdI 6),
  (false, 134, 2, sLdI 7),
  (false, 136, 3, sInv 5 true dP_costOfWay),
  (false, 139, 3, sGoto 153),
  (false, 142, 2, sLdI 7),
  (false, 144, 2, sLdI 5),
  (false, 146, 1, sC 1),
  (false, 147, 1, sBin (fun x y => x - y)),
  (false, 148, 1, sLdI 3),
  (false, 149, 1, sBin (fun x y => x - y)),
  (false, 150, 1, sBin (fun x y => x >>> (y &&& 31))),
  (false, 151, 1, sC 1),
  (false, 152, 1, sBin (fun x y => x &&& y)),
  (false, 153, 1, sRetI)]
theorem oF_ask {E : EV} (hsd : E.2.2.2 = 0) (l : Launch) : AllOK E l 4 "FreeLances" prog_1_method_37_code 8 (some .int) outI (cF_ask) := by
  refine ak (ok_aload_n (k := 0) rfl (by decide +kernel)) ?_
  refine ak (ok_iload_n (k := 1) rfl (by decide +kernel)) ?_
  refine ak (ok_invV (r := 0) (kF_isTown hsd l) qF_isTown ck10 kd0 iF_isTown tw570 tw1 (by decide) tw568 (by decide +kernel)) ?_
  refine ak (ok_if_eq (off := 10) (by decide) (by decide +kernel)) ?_
  refine ak (ok_iload_n (k := 2) rfl (by decide +kernel)) ?_
  refine ak (ok_invS (kF_isSheet hsd l) iF_isSheet tw916 (by decide) tw915 (by decide +kernel)) ?_
  refine ak (ok_if_ne (off := 9) (by decide) (by decide +kernel)) ?_
  refine ak (ok_aload_n (k := 0) rfl (by decide +kernel)) ?_
  refine ak (ok_iconst (n := 1) (by decide) (by decide +kernel)) ?_
  refine ak (ok_invV (r := 0) (kF_finding hsd l) qF_finding ck10 kd0 iF_finding tw557 tw0 (by decide) tw555 (by decide +kernel)) ?_
  refine ak (ok_ireturn rfl (by decide +kernel)) ?_
  refine ak (ok_aload_n (k := 0) rfl (by decide +kernel)) ?_
  refine ak (ok_get (k := 3) ck10 kd0 (by decide) (fun _ _ _ => rfl) (vf_0_3 hsd) tw525 (by decide +kernel)) ?_
  refine ak (ok_iload_n (k := 2) rfl (by decide +kernel)) ?_
  refine ak (ok_aald (t0 := 7) (C := RX5) kd18 (by decide) rfl (vr_18 hsd) (by decide +kernel)) ?_
  refine ak (ok_astore (by decide) (by decide +kernel)) ?_
  refine ak (ok_aload (by decide +kernel)) ?_
  refine ak (ok_invV (r := 19) (kS_missing hsd l) qS_missing ck5 kd19 iS_missing tw919 tw920 (by decide) tw918 (by decide +kernel)) ?_
  refine ak (ok_if_eq (off := 9) (by decide) (by decide +kernel)) ?_
  refine ak (ok_aload_n (k := 0) rfl (by decide +kernel)) ?_
  refine ak (ok_iconst (n := 2) (by decide) (by decide +kernel)) ?_
  refine ak (ok_invV (r := 0) (kF_finding hsd l) qF_finding ck10 kd0 iF_finding tw557 tw0 (by decide) tw555 (by decide +kernel)) ?_
  refine ak (ok_ireturn rfl (by decide +kernel)) ?_
  refine ak (ok_aload (by decide +kernel)) ?_
  refine ak (ok_iconst (n := 4) (by decide) (by decide +kernel)) ?_
  refine ak (ok_invV (r := 19) (kS_inThrees hsd l) qS_inThrees ck5 kd19 iS_inThrees tw975 tw976 (by decide) tw974 (by decide +kernel)) ?_
  refine ak (ok_if_ne (off := 9) (by decide) (by decide +kernel)) ?_
  refine ak (ok_aload_n (k := 0) rfl (by decide +kernel)) ?_
  refine ak (ok_iconst (n := 5) (by decide) (by decide +kernel)) ?_
  refine ak (ok_invV (r := 0) (kF_finding hsd l) qF_finding ck10 kd0 iF_finding tw557 tw0 (by decide) tw555 (by decide +kernel)) ?_
  refine ak (ok_ireturn rfl (by decide +kernel)) ?_
  refine ak (ok_aload (by decide +kernel)) ?_
  refine ak (ok_get (k := 1) ck5 kd19 (by decide) (fun _ _ _ => rfl) (fun _ _ _ _ _ => trivial) tw473 (by decide +kernel)) ?_
  refine ak (ok_iconst (n := 3) (by decide) (by decide +kernel)) ?_
  refine ak (ok_idiv (by decide +kernel)) ?_
  refine ak (ok_istore (by decide) (by decide +kernel)) ?_
  refine ak (ok_iload_n (k := 3) rfl (by decide +kernel)) ?_
  refine ak (ok_iconst (n := (-1)) (by decide) (by decide +kernel)) ?_
  refine ak (ok_iload (by decide +kernel)) ?_
  refine ak (ok_iconst (n := 1) (by decide) (by decide +kernel)) ?_
  refine ak (ok_isub (by decide +kernel)) ?_
  refine ak (ok_invS (kF_within hsd l) iF_within tw553 (by decide) tw552 (by decide +kernel)) ?_
  refine ak (ok_if_ne (off := 9) (by decide) (by decide +kernel)) ?_
  refine ak (ok_aload_n (k := 0) rfl (by decide +kernel)) ?_
  refine ak (ok_iconst (n := 1) (by decide) (by decide +kernel)) ?_
  refine ak (ok_invV (r := 0) (kF_finding hsd l) qF_finding ck10 kd0 iF_finding tw557 tw0 (by decide) tw555 (by decide +kernel)) ?_
  refine ak (ok_ireturn rfl (by decide +kernel)) ?_
  refine ak (ok_aload_n (k := 0) rfl (by decide +kernel)) ?_
  refine ak (ok_get (k := 0) ck10 kd0 (by decide) (fun _ _ _ => rfl) (vf_0_0 hsd) tw522 (by decide +kernel)) ?_
  refine ak (ok_get (k := 1) ck9 kd1 (by decide) (fun _ _ _ => rfl) (vf_1_1 hsd) tw389 (by decide +kernel)) ?_
  refine ak (ok_iload_n (k := 1) rfl (by decide +kernel)) ?_
  refine ak (ok_aald (t0 := 2) (C := RX7) kd2 (by decide) rfl (vr_2 hsd) (by decide +kernel)) ?_
  refine ak (ok_get (k := 0) ck7 kd3 (by decide) (fun _ _ _ => rfl) (fun _ _ _ _ _ => trivial) tw175 (by decide +kernel)) ?_
  refine ak (ok_istore (by decide) (by decide +kernel)) ?_
  refine ak (ok_aload_n (k := 0) rfl (by decide +kernel)) ?_
  refine ak (ok_get (k := 5) ck10 kd0 (by decide) (fun _ _ _ => rfl) (vf_0_5 hsd) tw527 (by decide +kernel)) ?_
  refine ak (ok_aload (by decide +kernel)) ?_
  refine ak (ok_get (k := 2) ck5 kd19 (by decide) (fun _ _ _ => rfl) (vf_19_2 hsd) tw477 (by decide +kernel)) ?_
  refine ak (ok_iload (by decide +kernel)) ?_
  refine ak (ok_iload (by decide +kernel)) ?_
  refine ak (ok_invV (r := 23) (kP_cheapestWay hsd l) qP_cheapestWay ck3 kd23 iP_cheapestWay tw980 tw981 (by decide) tw979 (by decide +kernel)) ?_
  refine ak (ok_istore (by decide) (by decide +kernel)) ?_
  refine ak (ok_iload_n (k := 3) rfl (by decide +kernel)) ?_
  refine ak (ok_if_ge (off := 24) (by decide) (by decide +kernel)) ?_
  refine ak (ok_aload_n (k := 0) rfl (by decide +kernel)) ?_
  refine ak (ok_get (k := 5) ck10 kd0 (by decide) (fun _ _ _ => rfl) (vf_0_5 hsd) tw527 (by decide +kernel)) ?_
  refine ak (ok_aload (by decide +kernel)) ?_
  refine ak (ok_get (k := 2) ck5 kd19 (by decide) (fun _ _ _ => rfl) (vf_19_2 hsd) tw477 (by decide +kernel)) ?_
  refine ak (ok_iload (by decide +kernel)) ?_
  refine ak (ok_iload (by decide +kernel)) ?_
  refine ak (ok_iload (by decide +kernel)) ?_
  refine ak (ok_invV (r := 23) (kP_costOfWay hsd l) qP_costOfWay ck3 kd23 iP_costOfWay tw984 tw985 (by decide) tw987 (by decide +kernel)) ?_
  refine ak (ok_goto (off := 14) (by decide) (by decide +kernel)) ?_
  refine ak (ok_iload (by decide +kernel)) ?_
  refine ak (ok_iload (by decide +kernel)) ?_
  refine ak (ok_iconst (n := 1) (by decide) (by decide +kernel)) ?_
  refine ak (ok_isub (by decide +kernel)) ?_
  refine ak (ok_iload_n (k := 3) rfl (by decide +kernel)) ?_
  refine ak (ok_isub (by decide +kernel)) ?_
  refine ak (ok_ishr (by decide +kernel)) ?_
  refine ak (ok_iconst (n := 1) (by decide) (by decide +kernel)) ?_
  refine ak (ok_iand (by decide +kernel)) ?_
  refine ak (ok_ireturn rfl (by decide +kernel)) ?_
  exact trivial
set_option maxRecDepth 1000000 in
theorem eF_ask (x1 : Int32) (x2 : Int32) (x3 : Int32) (M : Mem) : run (cF_ask) (fun _ _ _ _ => none) rtI 400 (seek (cF_ask) 0) [aR (0, 0, 0), aI x1, aI x2, aI x3, aU, aU, aU, aU] [] M = mF_ask x1 x2 x3 M := id rfl
theorem lF_ask {E : EV} {l : Launch} {p : Program} {e : Env} {s : State} {m : MethodId} {args : Array Value} {below : List Frame} {meth : Method} {c : Code} (A : AllOK E l 4 "FreeLances" prog_1_method_37_code 8 (some .int) outI (cF_ask)) (C : Cx E p s m args meth c "FreeLances" prog_1_method_37_code 8 (some .int)) : ∀ (x1 : Int32) (x2 : Int32) (x3 : Int32) (M : Mem) (res : (Int32 × Mem)), mF_ask x1 x2 x3 M = some res → Wm E p l e 4 s m args below meth c 8 0 [aR (0, 0, 0), aI x1, aI x2, aI x3, aU, aU, aU, aU] [] M (outI res).1 (outI res).2 := by
  intro x1 x2 x3 M res h
  refine run_at C A rfl hrtI (n := 400) ((eF_ask x1 x2 x3 M).trans h) ?_
  intro t als st M hk; cases hk
def dF_ask {β : Type} : Den β := fun as M k => match as with
  | [.inr (.inr (.inl (al0, bl0, cl0))), .inl x1, .inl x2, .inl x3] => if al0 = 0 ∧ bl0 = 0 ∧ cl0 = 0 then (mF_ask x1 x2 x3 M).bind fun q => k (aI q.1) q.2 else none
  | _ => none
theorem wF_ask {E : EV} (hsd : E.2.2.2 = 0) (l : Launch) (x1 : Int32) (x2 : Int32) (x3 : Int32) (M : Mem) (q : (Int32 × Mem)) (hq : mF_ask x1 x2 x3 M = some q) : Con E l 4 yF_ask prog_1_method_37_code 8 (some .int) [aR (0, 0, 0), aI x1, aI x2, aI x3] M (outI q).1 (outI q).2 := by
  refine con_of iF_ask (Nat.le_of_ble_eq_true rfl) ?_
  intro p e s m args below meth c C
  exact lF_ask (oF_ask hsd l) C x1 x2 x3 M _ hq
theorem kF_ask {E : EV} (hsd : E.2.2.2 = 0) (l : Launch) {β : Type} : DenOK E l 4 yF_ask prog_1_method_37_code 8 (some .int) true (dF_ask (β := β)) := by
  intro as M k res h
  unfold dF_ask at h
  split at h
  ·
    split at h
    · rename_i hc
      obtain ⟨rfl, rfl, rfl⟩ := hc
      obtain ⟨q, hq, hk⟩ := Option.bind_eq_some_iff.mp h
      exact ⟨aI q.1, q.2, hk, rfl, wF_ask hsd l _ _ _ M q hq⟩
    · cases h
  · cases h
theorem qF_ask {β : Type} : RecOK 0 (dF_ask (β := β)) := by
  intro as M k res h
  unfold dF_ask at h
  split at h
  ·
    split at h
    · rename_i hc
      obtain ⟨rfl, rfl, rfl⟩ := hc
      exact ⟨_, _, _, rfl⟩
    · cases h
  · cases h
/-! ===== FreeLances$Sheet.total()I ===== -/
abbrev yS_total : MethodName := ⟨"FreeLances$Sheet", "total", "()I"⟩
theorem iS_total : MI yS_total prog_7_method_8_code 3 (some .int) 0 := ⟨tw995, tw105, ⟨by decide, by decide⟩, by decide +kernel, by decide, by decide⟩
def cS_total : List (Ent (Int32 × Mem)) := [(false, 0, 1, sC 0),
  (false, 1, 1, sStI 1),
  (false, 2, 1, sC 0),
  (false, 3, 1, sStI 2),
  (true, 4, 1, sLdI 2),
  (false, 5, 1, sLdA 0),
  (false, 6, 3, sGet 19 (fun w i M => aI (M 19 w i 1))),
  (false, 9, 3, sCmpGe 27),
  (false, 12, 1, sLdI 1),
  (false, 13, 1, sLdA 0),
  (false, 14, 3, sGet 19 (fun w i M => aR (20, w, i))),
  (false, 17, 1, sLdI 2),
  (false, 18, 1, sIald 20 24),
  (false, 19, 1, sBin (fun x y => x + y)),
  (false, 20, 1, sStI 1),
  (false, 21, 3, sInc 2 1),
  (false, 24, 3, sGoto 4),
  (false, 27, 1, sLdI 1),
  (false, 28, 1, sRetI)]
theorem oS_total {E : EV} (hsd : E.2.2.2 = 0) (l : Launch) : AllOK E l 1 "FreeLances$Sheet" prog_7_method_8_code 3 (some .int) outI (cS_total) := by
  refine ak (ok_iconst (n := 0) (by decide) (by decide +kernel)) ?_
  refine ak (ok_istore_n (k := 1) rfl (by decide) (by decide +kernel)) ?_
  refine ak (ok_iconst (n := 0) (by decide) (by decide +kernel)) ?_
  refine ak (ok_istore_n (k := 2) rfl (by decide) (by decide +kernel)) ?_
  refine ak (ok_iload_n (k := 2) rfl (by decide +kernel)) ?_
  refine ak (ok_aload_n (k := 0) rfl (by decide +kernel)) ?_
  refine ak (ok_get (k := 1) ck5 kd19 (by decide) (fun _ _ _ => rfl) (fun _ _ _ _ _ => trivial) tw470 (by decide +kernel)) ?_
  refine ak (ok_icmp_ge (off := 18) (by decide) (by decide +kernel)) ?_
  refine ak (ok_iload_n (k := 1) rfl (by decide +kernel)) ?_
  refine ak (ok_aload_n (k := 0) rfl (by decide +kernel)) ?_
  refine ak (ok_get (k := 2) ck5 kd19 (by decide) (fun _ _ _ => rfl) (vf_19_2 hsd) tw474 (by decide +kernel)) ?_
  refine ak (ok_iload_n (k := 2) rfl (by decide +kernel)) ?_
  refine ak (ok_iald kd20 (by decide) (by decide +kernel)) ?_
  refine ak (ok_iadd (by decide +kernel)) ?_
  refine ak (ok_istore_n (k := 1) rfl (by decide) (by decide +kernel)) ?_
  refine ak (ok_iinc (n := 1) (by decide) (by decide) (by decide +kernel)) ?_
  refine ak (ok_goto (off := (-20)) (by decide) (by decide +kernel)) ?_
  refine ak (ok_iload_n (k := 1) rfl (by decide +kernel)) ?_
  refine ak (ok_ireturn rfl (by decide +kernel)) ?_
  exact trivial
def KS_total_4 (j4 : Nat → Int32 → Int32 → Mem → Option (Int32 × Mem)) : Jm (Int32 × Mem) := fun t als st M =>
  if t = 4 then (match als, st with
  | [.inr (.inr (.inl (al0, bl0, i0))), .inl x1, .inl x2], [] => if al0 = 19 ∧ bl0 = 0 then j4 i0 x1 x2 M else none
  | _, _ => none) else
  none
set_option maxRecDepth 1000000 in
theorem eS_total_4 (j4 : Nat → Int32 → Int32 → Mem → Option (Int32 × Mem)) (i0 : Nat) (x1 : Int32) (x2 : Int32) (M : Mem) : run (cS_total) (KS_total_4 j4) rtI 400 (seek (cS_total) 4) [aR (19, 0, i0), aI x1, aI x2] [] M = mS_total_4b j4 i0 x1 x2 M := id rfl
theorem lS_total_4 {E : EV} {l : Launch} {p : Program} {e : Env} {s : State} {m : MethodId} {args : Array Value} {below : List Frame} {meth : Method} {c : Code} (A : AllOK E l 1 "FreeLances$Sheet" prog_7_method_8_code 3 (some .int) outI (cS_total)) (C : Cx E p s m args meth c "FreeLances$Sheet" prog_7_method_8_code 3 (some .int)) : ∀ (n : Nat), ∀ (i0 : Nat) (x1 : Int32) (x2 : Int32) (M : Mem) (res : (Int32 × Mem)), mS_total_4 n i0 x1 x2 M = some res → Wm E p l e 1 s m args below meth c 3 4 [aR (19, 0, i0), aI x1, aI x2] [] M (outI res).1 (outI res).2 := by
  intro n
  induction n with
  | zero => intro _ _ _ M res h; cases h
  | succ n ih =>
    intro i0 x1 x2 M res h
    refine run_at C A rfl hrtI (n := 400) ((eS_total_4 (mS_total_4 n) i0 x1 x2 M).trans h) ?_
    intro t als st M hk
    unfold KS_total_4 at hk
    split at hk
    · rename_i ht
      subst ht
      split at hk
      · split at hk
        · rename_i hc
          obtain ⟨rfl, rfl⟩ := hc
          exact ih _ _ _ _ _ hk
        · cases hk
      · cases hk
    cases hk
def KS_total (j4 : Nat → Int32 → Int32 → Mem → Option (Int32 × Mem)) : Jm (Int32 × Mem) := fun t als st M =>
  if t = 4 then (match als, st with
  | [.inr (.inr (.inl (al0, bl0, i0))), .inl x1, .inl x2], [] => if al0 = 19 ∧ bl0 = 0 then j4 i0 x1 x2 M else none
  | _, _ => none) else
  none
set_option maxRecDepth 1000000 in
theorem eS_total (j4 : Nat → Int32 → Int32 → Mem → Option (Int32 × Mem)) (i0 : Nat) (M : Mem) : run (cS_total) (KS_total j4) rtI 400 (seek (cS_total) 0) [aR (19, 0, i0), aU, aU] [] M = mS_totalb j4 i0 M := id rfl
theorem lS_total {E : EV} {l : Launch} {p : Program} {e : Env} {s : State} {m : MethodId} {args : Array Value} {below : List Frame} {meth : Method} {c : Code} (A : AllOK E l 1 "FreeLances$Sheet" prog_7_method_8_code 3 (some .int) outI (cS_total)) (C : Cx E p s m args meth c "FreeLances$Sheet" prog_7_method_8_code 3 (some .int)) : ∀ (i0 : Nat) (M : Mem) (res : (Int32 × Mem)), mS_total i0 M = some res → Wm E p l e 1 s m args below meth c 3 0 [aR (19, 0, i0), aU, aU] [] M (outI res).1 (outI res).2 := by
  intro i0 M res h
  refine run_at C A rfl hrtI (n := 400) ((eS_total (mS_total_4 fuel) i0 M).trans h) ?_
  intro t als st M hk
  unfold KS_total at hk
  split at hk
  · rename_i ht
    subst ht
    split at hk
    · split at hk
      · rename_i hc
        obtain ⟨rfl, rfl⟩ := hc
        exact lS_total_4 A C _ _ _ _ _ _ hk
      · cases hk
    · cases hk
  cases hk
def dS_total {β : Type} : Den β := fun as M k => match as with
  | [.inr (.inr (.inl (al0, bl0, i0)))] => if al0 = 19 ∧ bl0 = 0 then (mS_total i0 M).bind fun q => k (aI q.1) q.2 else none
  | _ => none
theorem wS_total {E : EV} (hsd : E.2.2.2 = 0) (l : Launch) (i0 : Nat) (M : Mem) (q : (Int32 × Mem)) (hq : mS_total i0 M = some q) : Con E l 1 yS_total prog_7_method_8_code 3 (some .int) [aR (19, 0, i0)] M (outI q).1 (outI q).2 := by
  refine con_of iS_total (Nat.le_of_ble_eq_true rfl) ?_
  intro p e s m args below meth c C
  exact lS_total (oS_total hsd l) C i0 M _ hq
theorem kS_total {E : EV} (hsd : E.2.2.2 = 0) (l : Launch) {β : Type} : DenOK E l 1 yS_total prog_7_method_8_code 3 (some .int) true (dS_total (β := β)) := by
  intro as M k res h
  unfold dS_total at h
  split at h
  ·
    split at h
    · rename_i hc
      obtain ⟨rfl, rfl⟩ := hc
      obtain ⟨q, hq, hk⟩ := Option.bind_eq_some_iff.mp h
      exact ⟨aI q.1, q.2, hk, rfl, wS_total hsd l _ M q hq⟩
    · cases h
  · cases h
theorem qS_total {β : Type} : RecOK 19 (dS_total (β := β)) := by
  intro as M k res h
  unfold dS_total at h
  split at h
  ·
    split at h
    · rename_i hc
      obtain ⟨rfl, rfl⟩ := hc
      exact ⟨_, _, _, rfl⟩
    · cases h
  · cases h
/-! ===== FreeLances$Plans.partOf(ILFreeLances$Sheet;II)I ===== -/
abbrev yP_partOf : MethodName := ⟨"FreeLances$Plans", "partOf", "(ILFreeLances$Sheet;II)I"⟩
theorem iP_partOf : MI yP_partOf prog_5_method_4_code 10 (some .int) 4 := ⟨tw999, tw107, ⟨by decide, by decide⟩, by decide +kernel, by decide, by decide⟩
def cP_partOf : List (Ent (Int32 × Mem)) := [(false, 0, 1, sLdI 3),
  (false, 1, 3, sIfGt 6),
  (false, 4, 1, sC 0),
  (false, 5, 1, sRetI),
  (false, 6, 1, sLdI 1),
  (false, 7, 2, sStI 5),
  (false, 9, 1, sC 0),
  (false, 10, 2, sStI 6),
  (false, 12, 1, sLdI 1),
  (false, 13, 1, sLdA 2),
  (false, 14, 3, sGet 19 (fun w i M => aR (20, w, i))),
  (false, 17, 2, sLdI 4),
  (false, 19, 1, sIald 20 24),
  (false, 20, 1, sBin (fun x y => x * y)),
  (false, 21, 1, sLdI 3),
  (false, 22, 1, sBin0 (fun x y => x - x / y * y)),
  (false, 23, 2, sStI 7),
  (false, 25, 1, sC 0),
  (false, 26, 2, sStI 8),
  (true, 28, 2, sLdI 8),
  (false, 30, 1, sLdA 2),
  (false, 31, 3, sGet 19 (fun w i M => aI (M 19 w i 1))),
  (false, 34, 3, sCmpGe 96),
  (false, 37, 1, sLdI 1),
  (false, 38, 1, sLdA 2),
  (false, 39, 3, sGet 19 (fun w i M => aR (20, w, i))),
  (false, 42, 2, sLdI 8),
  (false, 44, 1, sIald 20 24),
  (false, 45, 1, sBin (fun x y => x * y)),
  (false, 46, 1, sLdI 3),
  (false, 47, 1, sBin0 (fun x y => x - x / y * y)),
  (false, 48, 2, sStI 9),
  (false, 50, 2, sLdI 5),
  (false, 52, 1, sLdI 1),
  (false, 53, 1, sLdA 2),
  (false, 54, 3, sGet 19 (fun w i M => aR (20, w, i))),
  (false, 57, 2, sLdI 8),
  (false, 59, 1, sIald 20 24),
  (false, 60, 1, sBin (fun x y => x * y)),
  (false, 61, 1, sLdI 3),
  (false, 62, 1, sBin0 (fun x y => x / y)),
  (false, 63, 1, sBin (fun x y => x - y)),
  (false, 64, 2, sStI 5),
  (false, 66, 2, sLdI 9),
  (false, 68, 2, sLdI 7),
  (false, 70, 3, sCmpGt 87),
  (false, 73, 2, sLdI 9),
  (false, 75, 2, sLdI 7),
  (false, 77, 3, sCmpNe 90),
  (false, 80, 2, sLdI 8),
  (false, 82, 2, sLdI 4),
  (false, 84, 3, sCmpGe 90),
  (false, 87, 3, sInc 6 1),
  (false, 90, 3, sInc 8 1),
  (false, 93, 3, sGoto 28),
  (false, 96, 1, sLdI 1),
  (false, 97, 1, sLdA 2),
  (false, 98, 3, sGet 19 (fun w i M => aR (20, w, i))),
  (false, 101, 2, sLdI 4),
  (false, 103, 1, sIald 20 24),
  (false, 104, 1, sBin (fun x y => x * y)),
  (false, 105, 1, sLdI 3),
  (false, 106, 1, sBin0 (fun x y => x / y)),
  (false, 107, 2, sLdI 6),
  (false, 109, 2, sLdI 5),
  (false, 111, 3, sCmpGe 118),
  (false, 114, 1, sC 1),
  (false, 115, 3, sGoto 119),
  (false, 118, 1, sC 0),
  (false, 119, 1, sBin (fun x y => x + y)),
  (false, 120, 1, sRetI)]
theorem oP_partOf {E : EV} (hsd : E.2.2.2 = 0) (l : Launch) : AllOK E l 1 "FreeLances$Plans" prog_5_method_4_code 10 (some .int) outI (cP_partOf) := by
  refine ak (ok_iload_n (k := 3) rfl (by decide +kernel)) ?_
  refine ak (ok_if_gt (off := 5) (by decide) (by decide +kernel)) ?_
  refine ak (ok_iconst (n := 0) (by decide) (by decide +kernel)) ?_
  refine ak (ok_ireturn rfl (by decide +kernel)) ?_
  refine ak (ok_iload_n (k := 1) rfl (by decide +kernel)) ?_
  refine ak (ok_istore (by decide) (by decide +kernel)) ?_
  refine ak (ok_iconst (n := 0) (by decide) (by decide +kernel)) ?_
  refine ak (ok_istore (by decide) (by decide +kernel)) ?_
  refine ak (ok_iload_n (k := 1) rfl (by decide +kernel)) ?_
  refine ak (ok_aload_n (k := 2) rfl (by decide +kernel)) ?_
  refine ak (ok_get (k := 2) ck5 kd19 (by decide) (fun _ _ _ => rfl) (vf_19_2 hsd) tw475 (by decide +kernel)) ?_
  refine ak (ok_iload (by decide +kernel)) ?_
  refine ak (ok_iald kd20 (by decide) (by decide +kernel)) ?_
  refine ak (ok_imul (by decide +kernel)) ?_
  refine ak (ok_iload_n (k := 3) rfl (by decide +kernel)) ?_
  refine ak (ok_irem (by decide +kernel)) ?_
  refine ak (ok_istore (by decide) (by decide +kernel)) ?_
  refine ak (ok_iconst (n := 0) (by decide) (by decide +kernel)) ?_
  refine ak (ok_istore (by decide) (by decide +kernel)) ?_
  refine ak (ok_iload (by decide +kernel)) ?_
  refine ak (ok_aload_n (k := 2) rfl (by decide +kernel)) ?_
  refine ak (ok_get (k := 1) ck5 kd19 (by decide) (fun _ _ _ => rfl) (fun _ _ _ _ _ => trivial) tw471 (by decide +kernel)) ?_
  refine ak (ok_icmp_ge (off := 62) (by decide) (by decide +kernel)) ?_
  refine ak (ok_iload_n (k := 1) rfl (by decide +kernel)) ?_
  refine ak (ok_aload_n (k := 2) rfl (by decide +kernel)) ?_
  refine ak (ok_get (k := 2) ck5 kd19 (by decide) (fun _ _ _ => rfl) (vf_19_2 hsd) tw475 (by decide +kernel)) ?_
  refine ak (ok_iload (by decide +kernel)) ?_
  refine ak (ok_iald kd20 (by decide) (by decide +kernel)) ?_
  refine ak (ok_imul (by decide +kernel)) ?_
  refine ak (ok_iload_n (k := 3) rfl (by decide +kernel)) ?_
  refine ak (ok_irem (by decide +kernel)) ?_
  refine ak (ok_istore (by decide) (by decide +kernel)) ?_
  refine ak (ok_iload (by decide +kernel)) ?_
  refine ak (ok_iload_n (k := 1) rfl (by decide +kernel)) ?_
  refine ak (ok_aload_n (k := 2) rfl (by decide +kernel)) ?_
  refine ak (ok_get (k := 2) ck5 kd19 (by decide) (fun _ _ _ => rfl) (vf_19_2 hsd) tw475 (by decide +kernel)) ?_
  refine ak (ok_iload (by decide +kernel)) ?_
  refine ak (ok_iald kd20 (by decide) (by decide +kernel)) ?_
  refine ak (ok_imul (by decide +kernel)) ?_
  refine ak (ok_iload_n (k := 3) rfl (by decide +kernel)) ?_
  refine ak (ok_idiv (by decide +kernel)) ?_
  refine ak (ok_isub (by decide +kernel)) ?_
  refine ak (ok_istore (by decide) (by decide +kernel)) ?_
  refine ak (ok_iload (by decide +kernel)) ?_
  refine ak (ok_iload (by decide +kernel)) ?_
  refine ak (ok_icmp_gt (off := 17) (by decide) (by decide +kernel)) ?_
  refine ak (ok_iload (by decide +kernel)) ?_
  refine ak (ok_iload (by decide +kernel)) ?_
  refine ak (ok_icmp_ne (off := 13) (by decide) (by decide +kernel)) ?_
  refine ak (ok_iload (by decide +kernel)) ?_
  refine ak (ok_iload (by decide +kernel)) ?_
  refine ak (ok_icmp_ge (off := 6) (by decide) (by decide +kernel)) ?_
  refine ak (ok_iinc (n := 1) (by decide) (by decide) (by decide +kernel)) ?_
  refine ak (ok_iinc (n := 1) (by decide) (by decide) (by decide +kernel)) ?_
  refine ak (ok_goto (off := (-65)) (by decide) (by decide +kernel)) ?_
  refine ak (ok_iload_n (k := 1) rfl (by decide +kernel)) ?_
  refine ak (ok_aload_n (k := 2) rfl (by decide +kernel)) ?_
  refine ak (ok_get (k := 2) ck5 kd19 (by decide) (fun _ _ _ => rfl) (vf_19_2 hsd) tw475 (by decide +kernel)) ?_
  refine ak (ok_iload (by decide +kernel)) ?_
  refine ak (ok_iald kd20 (by decide) (by decide +kernel)) ?_
  refine ak (ok_imul (by decide +kernel)) ?_
  refine ak (ok_iload_n (k := 3) rfl (by decide +kernel)) ?_
  refine ak (ok_idiv (by decide +kernel)) ?_
  refine ak (ok_iload (by decide +kernel)) ?_
  refine ak (ok_iload (by decide +kernel)) ?_
  refine ak (ok_icmp_ge (off := 7) (by decide) (by decide +kernel)) ?_
  refine ak (ok_iconst (n := 1) (by decide) (by decide +kernel)) ?_
  refine ak (ok_goto (off := 4) (by decide) (by decide +kernel)) ?_
  refine ak (ok_iconst (n := 0) (by decide) (by decide +kernel)) ?_
  refine ak (ok_iadd (by decide +kernel)) ?_
  refine ak (ok_ireturn rfl (by decide +kernel)) ?_
  exact trivial
def KP_partOf_28 (j28 : Int32 → Nat → Int32 → Int32 → Int32 → Int32 → Int32 → Int32 → Mem → Option (Int32 × Mem)) : Jm (Int32 × Mem) := fun t als st M =>
  if t = 28 then (match als, st with
  | [_, .inl x1, .inr (.inr (.inl (al2, bl2, i2))), .inl x3, .inl x4, .inl x5, .inl x6, .inl x7, .inl x8, _], [] => if al2 = 19 ∧ bl2 = 0 then j28 x1 i2 x3 x4 x5 x6 x7 x8 M else none
  | _, _ => none) else
  none
set_option maxRecDepth 1000000 in
theorem eP_partOf_28 (j28 : Int32 → Nat → Int32 → Int32 → Int32 → Int32 → Int32 → Int32 → Mem → Option (Int32 × Mem)) (x1 : Int32) (i2 : Nat) (x3 : Int32) (x4 : Int32) (x5 : Int32) (x6 : Int32) (x7 : Int32) (x8 : Int32) (M : Mem) (u0 u9 : AV) : run (cP_partOf) (KP_partOf_28 j28) rtI 400 (seek (cP_partOf) 28) [u0, aI x1, aR (19, 0, i2), aI x3, aI x4, aI x5, aI x6, aI x7, aI x8, u9] [] M = mP_partOf_28b j28 x1 i2 x3 x4 x5 x6 x7 x8 M := id rfl
theorem lP_partOf_28 {E : EV} {l : Launch} {p : Program} {e : Env} {s : State} {m : MethodId} {args : Array Value} {below : List Frame} {meth : Method} {c : Code} (A : AllOK E l 1 "FreeLances$Plans" prog_5_method_4_code 10 (some .int) outI (cP_partOf)) (C : Cx E p s m args meth c "FreeLances$Plans" prog_5_method_4_code 10 (some .int)) : ∀ (n : Nat), ∀ (x1 : Int32) (i2 : Nat) (x3 : Int32) (x4 : Int32) (x5 : Int32) (x6 : Int32) (x7 : Int32) (x8 : Int32) (M : Mem) (res : (Int32 × Mem)), mP_partOf_28 n x1 i2 x3 x4 x5 x6 x7 x8 M = some res → ∀ (u0 u9 : AV), Wm E p l e 1 s m args below meth c 10 28 [u0, aI x1, aR (19, 0, i2), aI x3, aI x4, aI x5, aI x6, aI x7, aI x8, u9] [] M (outI res).1 (outI res).2 := by
  intro n
  induction n with
  | zero => intro _ _ _ _ _ _ _ _ M res h; cases h
  | succ n ih =>
    intro x1 i2 x3 x4 x5 x6 x7 x8 M res h u0 u9
    refine run_at C A rfl hrtI (n := 400) ((eP_partOf_28 (mP_partOf_28 n) x1 i2 x3 x4 x5 x6 x7 x8 M u0 u9).trans h) ?_
    intro t als st M hk
    unfold KP_partOf_28 at hk
    split at hk
    · rename_i ht
      subst ht
      split at hk
      · split at hk
        · rename_i hc
          obtain ⟨rfl, rfl⟩ := hc
          exact ih _ _ _ _ _ _ _ _ _ _ hk _ _
        · cases hk
      · cases hk
    cases hk
def KP_partOf (j28 : Int32 → Nat → Int32 → Int32 → Int32 → Int32 → Int32 → Int32 → Mem → Option (Int32 × Mem)) : Jm (Int32 × Mem) := fun t als st M =>
  if t = 28 then (match als, st with
  | [_, .inl x1, .inr (.inr (.inl (al2, bl2, i2))), .inl x3, .inl x4, .inl x5, .inl x6, .inl x7, .inl x8, _], [] => if al2 = 19 ∧ bl2 = 0 then j28 x1 i2 x3 x4 x5 x6 x7 x8 M else none
  | _, _ => none) else
  none
set_option maxRecDepth 1000000 in
theorem eP_partOf (j28 : Int32 → Nat → Int32 → Int32 → Int32 → Int32 → Int32 → Int32 → Mem → Option (Int32 × Mem)) (x1 : Int32) (i2 : Nat) (x3 : Int32) (x4 : Int32) (M : Mem) : run (cP_partOf) (KP_partOf j28) rtI 400 (seek (cP_partOf) 0) [aR (23, 0, 0), aI x1, aR (19, 0, i2), aI x3, aI x4, aU, aU, aU, aU, aU] [] M = mP_partOfb j28 x1 i2 x3 x4 M := id rfl
theorem lP_partOf {E : EV} {l : Launch} {p : Program} {e : Env} {s : State} {m : MethodId} {args : Array Value} {below : List Frame} {meth : Method} {c : Code} (A : AllOK E l 1 "FreeLances$Plans" prog_5_method_4_code 10 (some .int) outI (cP_partOf)) (C : Cx E p s m args meth c "FreeLances$Plans" prog_5_method_4_code 10 (some .int)) : ∀ (x1 : Int32) (i2 : Nat) (x3 : Int32) (x4 : Int32) (M : Mem) (res : (Int32 × Mem)), mP_partOf x1 i2 x3 x4 M = some res → Wm E p l e 1 s m args below meth c 10 0 [aR (23, 0, 0), aI x1, aR (19, 0, i2), aI x3, aI x4, aU, aU, aU, aU, aU] [] M (outI res).1 (outI res).2 := by
  intro x1 i2 x3 x4 M res h
  refine run_at C A rfl hrtI (n := 400) ((eP_partOf (mP_partOf_28 fuel) x1 i2 x3 x4 M).trans h) ?_
  intro t als st M hk
  unfold KP_partOf at hk
  split at hk
  · rename_i ht
    subst ht
    split at hk
    · split at hk
      · rename_i hc
        obtain ⟨rfl, rfl⟩ := hc
        exact lP_partOf_28 A C _ _ _ _ _ _ _ _ _ _ _ hk _ _
      · cases hk
    · cases hk
  cases hk
def dP_partOf {β : Type} : Den β := fun as M k => match as with
  | [.inr (.inr (.inl (al0, bl0, cl0))), .inl x1, .inr (.inr (.inl (al2, bl2, i2))), .inl x3, .inl x4] => if al0 = 23 ∧ bl0 = 0 ∧ cl0 = 0 ∧ al2 = 19 ∧ bl2 = 0 then (mP_partOf x1 i2 x3 x4 M).bind fun q => k (aI q.1) q.2 else none
  | _ => none
theorem wP_partOf {E : EV} (hsd : E.2.2.2 = 0) (l : Launch) (x1 : Int32) (i2 : Nat) (x3 : Int32) (x4 : Int32) (M : Mem) (q : (Int32 × Mem)) (hq : mP_partOf x1 i2 x3 x4 M = some q) : Con E l 1 yP_partOf prog_5_method_4_code 10 (some .int) [aR (23, 0, 0), aI x1, aR (19, 0, i2), aI x3, aI x4] M (outI q).1 (outI q).2 := by
  refine con_of iP_partOf (Nat.le_of_ble_eq_true rfl) ?_
  intro p e s m args below meth c C
  exact lP_partOf (oP_partOf hsd l) C x1 i2 x3 x4 M _ hq
theorem kP_partOf {E : EV} (hsd : E.2.2.2 = 0) (l : Launch) {β : Type} : DenOK E l 1 yP_partOf prog_5_method_4_code 10 (some .int) true (dP_partOf (β := β)) := by
  intro as M k res h
  unfold dP_partOf at h
  split at h
  ·
    split at h
    · rename_i hc
      obtain ⟨rfl, rfl, rfl, rfl, rfl⟩ := hc
      obtain ⟨q, hq, hk⟩ := Option.bind_eq_some_iff.mp h
      exact ⟨aI q.1, q.2, hk, rfl, wP_partOf hsd l _ _ _ _ M q hq⟩
    · cases h
  · cases h
theorem qP_partOf {β : Type} : RecOK 23 (dP_partOf (β := β)) := by
  intro as M k res h
  unfold dP_partOf at h
  split at h
  ·
    split at h
    · rename_i hc
      obtain ⟨rfl, rfl, rfl, rfl, rfl⟩ := hc
      exact ⟨_, _, _, rfl⟩
    · cases h
  · cases h
/-! ===== FreeLances.parts(III)I ===== -/
abbrev yF_parts : MethodName := ⟨"FreeLances", "parts", "(III)I"⟩
theorem iF_parts : MI yF_parts prog_1_method_38_code 6 (some .int) 3 := ⟨tw991, tw97, ⟨by decide, by decide⟩, by decide +kernel, by decide, by decide⟩
def cF_parts : List (Ent (Int32 × Mem)) := [(false, 0, 1, sLdI 1),
  (false, 1, 1, sC 0),
  (false, 2, 2, sC 99999),
  (false, 4, 3, sInv 3 true dF_within),
  (false, 7, 3, sIfEq 17),
  (false, 10, 1, sLdI 2),
  (false, 11, 3, sInv 1 true dF_isSheet),
  (false, 14, 3, sIfNe 23),
  (false, 17, 1, sLdA 0),
  (false, 18, 1, sC 1),
  (false, 19, 3, sInv 2 true dF_finding),
  (false, 22, 1, sRetI),
  (false, 23, 1, sLdA 0),
  (false, 24, 3, sGet 0 (fun w i M => aR (18, 0, 0))),
  (false, 27, 1, sLdI 2),
  (false, 28, 1, sAald 18 4 19),
  (false, 29, 2, sStA 4),
  (false, 31, 2, sLdA 4),
  (false, 33, 3, sInv 1 true dS_missing),
  (false, 36, 3, sIfEq 45),
  (false, 39, 1, sLdA 0),
  (false, 40, 1, sC 2),
  (false, 41, 3, sInv 2 true dF_finding),
  (false, 44, 1, sRetI),
  (false, 45, 2, sLdA 4),
  (false, 47, 3, sInv 1 true dS_total),
  (false, 50, 2, sStI 5),
  (false, 52, 2, sLdA 4),
  (false, 54, 1, sC 0),
  (false, 55, 3, sC 999),
  (false, 58, 3, sInv 3 true dS_allWithin),
  (false, 61, 3, sIfEq 69),
  (false, 64, 2, sLdI 5),
  (false, 66, 3, sIfGt 75),
  (false, 69, 1, sLdA 0),
  (false, 70, 1, sC 5),
  (false, 71, 3, sInv 2 true dF_finding),
  (false, 74, 1, sRetI),
  (false, 75, 1, sLdI 3),
  (false, 76, 1, sC 0),
  (false, 77, 2, sLdA 4),
  (false, 79, 3, sGet 19 (fun w i M => aI (M 19 w i 1))),
  (false, 82, 1, sC 1),
  (false, 83, 1, sBin (fun x y => x - y)),
  (false, 84, 3, sInv 3 true dF_within),
  (false, 87, 3, sIfNe 96),
  (false, 90, 1, sLdA 0),
  (false, 91, 1, sC 1),
  (false, 92, 3, sInv 2 true dF_finding),
  (false, 95, 1, sRetI),
  (false, 96, 1, sLdA 0),
  (false, 97, 3, sGet 0 (fun w i M => aR (23, 0, 0))),
  (false, 100, 1, sLdI 1),
  (false, 101, 2, sLdA 4),
  (false, 103, 2, sLdI 5),
  (false, 105, 1, sLdI 3),
  (false, 106, 3, sInv 5 true dP_partOf),
  (false, 109, 1, sRetI)]
theorem oF_parts {E : EV} (hsd : E.2.2.2 = 0) (l : Launch) : AllOK E l 3 "FreeLances" prog_1_method_38_code 6 (some .int) outI (cF_parts) := by
  refine ak (ok_iload_n (k := 1) rfl (by decide +kernel)) ?_
  refine ak (ok_iconst (n := 0) (by decide) (by decide +kernel)) ?_
  refine ak (ok_ldc tw551 (by decide +kernel)) ?_
  refine ak (ok_invS (kF_within hsd l) iF_within tw553 (by decide) tw552 (by decide +kernel)) ?_
  refine ak (ok_if_eq (off := 10) (by decide) (by decide +kernel)) ?_
  refine ak (ok_iload_n (k := 2) rfl (by decide +kernel)) ?_
  refine ak (ok_invS (kF_isSheet hsd l) iF_isSheet tw916 (by decide) tw915 (by decide +kernel)) ?_
  refine ak (ok_if_ne (off := 9) (by decide) (by decide +kernel)) ?_
  refine ak (ok_aload_n (k := 0) rfl (by decide +kernel)) ?_
  refine ak (ok_iconst (n := 1) (by decide) (by decide +kernel)) ?_
  refine ak (ok_invV (r := 0) (kF_finding hsd l) qF_finding ck10 kd0 iF_finding tw557 tw0 (by decide) tw555 (by decide +kernel)) ?_
  refine ak (ok_ireturn rfl (by decide +kernel)) ?_
  refine ak (ok_aload_n (k := 0) rfl (by decide +kernel)) ?_
  refine ak (ok_get (k := 3) ck10 kd0 (by decide) (fun _ _ _ => rfl) (vf_0_3 hsd) tw525 (by decide +kernel)) ?_
  refine ak (ok_iload_n (k := 2) rfl (by decide +kernel)) ?_
  refine ak (ok_aald (t0 := 7) (C := RX5) kd18 (by decide) rfl (vr_18 hsd) (by decide +kernel)) ?_
  refine ak (ok_astore (by decide) (by decide +kernel)) ?_
  refine ak (ok_aload (by decide +kernel)) ?_
  refine ak (ok_invV (r := 19) (kS_missing hsd l) qS_missing ck5 kd19 iS_missing tw919 tw920 (by decide) tw918 (by decide +kernel)) ?_
  refine ak (ok_if_eq (off := 9) (by decide) (by decide +kernel)) ?_
  refine ak (ok_aload_n (k := 0) rfl (by decide +kernel)) ?_
  refine ak (ok_iconst (n := 2) (by decide) (by decide +kernel)) ?_
  refine ak (ok_invV (r := 0) (kF_finding hsd l) qF_finding ck10 kd0 iF_finding tw557 tw0 (by decide) tw555 (by decide +kernel)) ?_
  refine ak (ok_ireturn rfl (by decide +kernel)) ?_
  refine ak (ok_aload (by decide +kernel)) ?_
  refine ak (ok_invV (r := 19) (kS_total hsd l) qS_total ck5 kd19 iS_total tw993 tw994 (by decide) tw992 (by decide +kernel)) ?_
  refine ak (ok_istore (by decide) (by decide +kernel)) ?_
  refine ak (ok_aload (by decide +kernel)) ?_
  refine ak (ok_iconst (n := 0) (by decide) (by decide +kernel)) ?_
  refine ak (ok_sipush (n := 999) (by decide) (by decide +kernel)) ?_
  refine ak (ok_invV (r := 19) (kS_allWithin hsd l) qS_allWithin ck5 kd19 iS_allWithin tw923 tw924 (by decide) tw922 (by decide +kernel)) ?_
  refine ak (ok_if_eq (off := 8) (by decide) (by decide +kernel)) ?_
  refine ak (ok_iload (by decide +kernel)) ?_
  refine ak (ok_if_gt (off := 9) (by decide) (by decide +kernel)) ?_
  refine ak (ok_aload_n (k := 0) rfl (by decide +kernel)) ?_
  refine ak (ok_iconst (n := 5) (by decide) (by decide +kernel)) ?_
  refine ak (ok_invV (r := 0) (kF_finding hsd l) qF_finding ck10 kd0 iF_finding tw557 tw0 (by decide) tw555 (by decide +kernel)) ?_
  refine ak (ok_ireturn rfl (by decide +kernel)) ?_
  refine ak (ok_iload_n (k := 3) rfl (by decide +kernel)) ?_
  refine ak (ok_iconst (n := 0) (by decide) (by decide +kernel)) ?_
  refine ak (ok_aload (by decide +kernel)) ?_
  refine ak (ok_get (k := 1) ck5 kd19 (by decide) (fun _ _ _ => rfl) (fun _ _ _ _ _ => trivial) tw473 (by decide +kernel)) ?_
  refine ak (ok_iconst (n := 1) (by decide) (by decide +kernel)) ?_
  refine ak (ok_isub (by decide +kernel)) ?_
  refine ak (ok_invS (kF_within hsd l) iF_within tw553 (by decide) tw552 (by decide +kernel)) ?_
  refine ak (ok_if_ne (off := 9) (by decide) (by decide +kernel)) ?_
  refine ak (ok_aload_n (k := 0) rfl (by decide +kernel)) ?_
  refine ak (ok_iconst (n := 1) (by decide) (by decide +kernel)) ?_
  refine ak (ok_invV (r := 0) (kF_finding hsd l) qF_finding ck10 kd0 iF_finding tw557 tw0 (by decide) tw555 (by decide +kernel)) ?_
  refine ak (ok_ireturn rfl (by decide +kernel)) ?_
  refine ak (ok_aload_n (k := 0) rfl (by decide +kernel)) ?_
  refine ak (ok_get (k := 5) ck10 kd0 (by decide) (fun _ _ _ => rfl) (vf_0_5 hsd) tw527 (by decide +kernel)) ?_
  refine ak (ok_iload_n (k := 1) rfl (by decide +kernel)) ?_
  refine ak (ok_aload (by decide +kernel)) ?_
  refine ak (ok_iload (by decide +kernel)) ?_
  refine ak (ok_iload_n (k := 3) rfl (by decide +kernel)) ?_
  refine ak (ok_invV (r := 23) (kP_partOf hsd l) qP_partOf ck3 kd23 iP_partOf tw997 tw998 (by decide) tw996 (by decide +kernel)) ?_
  refine ak (ok_ireturn rfl (by decide +kernel)) ?_
  exact trivial
set_option maxRecDepth 1000000 in
theorem eF_parts (x1 : Int32) (x2 : Int32) (x3 : Int32) (M : Mem) : run (cF_parts) (fun _ _ _ _ => none) rtI 400 (seek (cF_parts) 0) [aR (0, 0, 0), aI x1, aI x2, aI x3, aU, aU] [] M = mF_parts x1 x2 x3 M := id rfl
theorem lF_parts {E : EV} {l : Launch} {p : Program} {e : Env} {s : State} {m : MethodId} {args : Array Value} {below : List Frame} {meth : Method} {c : Code} (A : AllOK E l 3 "FreeLances" prog_1_method_38_code 6 (some .int) outI (cF_parts)) (C : Cx E p s m args meth c "FreeLances" prog_1_method_38_code 6 (some .int)) : ∀ (x1 : Int32) (x2 : Int32) (x3 : Int32) (M : Mem) (res : (Int32 × Mem)), mF_parts x1 x2 x3 M = some res → Wm E p l e 3 s m args below meth c 6 0 [aR (0, 0, 0), aI x1, aI x2, aI x3, aU, aU] [] M (outI res).1 (outI res).2 := by
  intro x1 x2 x3 M res h
  refine run_at C A rfl hrtI (n := 400) ((eF_parts x1 x2 x3 M).trans h) ?_
  intro t als st M hk; cases hk
def dF_parts {β : Type} : Den β := fun as M k => match as with
  | [.inr (.inr (.inl (al0, bl0, cl0))), .inl x1, .inl x2, .inl x3] => if al0 = 0 ∧ bl0 = 0 ∧ cl0 = 0 then (mF_parts x1 x2 x3 M).bind fun q => k (aI q.1) q.2 else none
  | _ => none
theorem wF_parts {E : EV} (hsd : E.2.2.2 = 0) (l : Launch) (x1 : Int32) (x2 : Int32) (x3 : Int32) (M : Mem) (q : (Int32 × Mem)) (hq : mF_parts x1 x2 x3 M = some q) : Con E l 3 yF_parts prog_1_method_38_code 6 (some .int) [aR (0, 0, 0), aI x1, aI x2, aI x3] M (outI q).1 (outI q).2 := by
  refine con_of iF_parts (Nat.le_of_ble_eq_true rfl) ?_
  intro p e s m args below meth c C
  exact lF_parts (oF_parts hsd l) C x1 x2 x3 M _ hq
theorem kF_parts {E : EV} (hsd : E.2.2.2 = 0) (l : Launch) {β : Type} : DenOK E l 3 yF_parts prog_1_method_38_code 6 (some .int) true (dF_parts (β := β)) := by
  intro as M k res h
  unfold dF_parts at h
  split at h
  ·
    split at h
    · rename_i hc
      obtain ⟨rfl, rfl, rfl⟩ := hc
      obtain ⟨q, hq, hk⟩ := Option.bind_eq_some_iff.mp h
      exact ⟨aI q.1, q.2, hk, rfl, wF_parts hsd l _ _ _ M q hq⟩
    · cases h
  · cases h
theorem qF_parts {β : Type} : RecOK 0 (dF_parts (β := β)) := by
  intro as M k res h
  unfold dF_parts at h
  split at h
  ·
    split at h
    · rename_i hc
      obtain ⟨rfl, rfl, rfl⟩ := hc
      exact ⟨_, _, _, rfl⟩
    · cases h
  · cases h
/-! ===== FreeLances.share(I)I ===== -/
abbrev yF_share : MethodName := ⟨"FreeLances", "share", "(I)I"⟩
theorem iF_share : MI yF_share prog_1_method_39_code 4 (some .int) 1 := ⟨tw1003, tw97, ⟨by decide, by decide⟩, by decide +kernel, by decide, by decide⟩
def cF_share : List (Ent (Int32 × Mem)) := [(false, 0, 1, sLdI 1),
  (false, 1, 1, sC 0),
  (false, 2, 2, sC 99999),
  (false, 4, 3, sInv 3 true dF_within),
  (false, 7, 3, sIfNe 16),
  (false, 10, 1, sLdA 0),
  (false, 11, 1, sC 1),
  (false, 12, 3, sInv 2 true dF_finding),
  (false, 15, 1, sRetI),
  (false, 16, 1, sLdA 0),
  (false, 17, 3, sGet 0 (fun w i M => aR (1, 0, 0))),
  (false, 20, 1, sC 3),
  (false, 21, 1, sLdA 0),
  (false, 22, 3, sGet 0 (fun w i M => aR (1, 0, 0))),
  (false, 25, 3, sGet 1 (fun w i M => aI (M 1 w i 0))),
  (false, 28, 3, sInv 3 true dW_inForce),
  (false, 31, 1, sStI 2),
  (false, 32, 1, sLdI 2),
  (false, 33, 3, sIfGe 40),
  (false, 36, 1, sLdI 1),
  (false, 37, 1, sC 3),
  (false, 38, 1, sBin0 (fun x y => x / y)),
  (false, 39, 1, sRetI),
  (false, 40, 1, sLdA 0),
  (false, 41, 3, sGet 0 (fun w i M => aR (1, 0, 0))),
  (false, 44, 3, sGet 1 (fun w i M => aR (17, w, 0))),
  (false, 47, 1, sLdA 0),
  (false, 48, 3, sGet 0 (fun w i M => aR (1, 0, 0))),
  (false, 51, 3, sGet 1 (fun w i M => aR (11, w, 0))),
  (false, 54, 1, sLdI 2),
  (false, 55, 1, sAald 11 12 12),
  (false, 56, 1, sLdI 1),
  (false, 57, 1, sC 0),
  (false, 58, 1, sC 0),
  (false, 59, 3, sInv 5 true dR_workOut),
  (false, 62, 1, sStI 3),
  (false, 63, 1, sC 0),
  (false, 64, 1, sLdI 1),
  (false, 65, 1, sLdI 3),
  (false, 66, 3, sMin),
  (false, 69, 3, sMax),
  (false, 72, 1, sRetI)]
theorem oF_share {E : EV} (hsd : E.2.2.2 = 0) (l : Launch) : AllOK E l 64 "FreeLances" prog_1_method_39_code 4 (some .int) outI (cF_share) := by
  refine ak (ok_iload_n (k := 1) rfl (by decide +kernel)) ?_
  refine ak (ok_iconst (n := 0) (by decide) (by decide +kernel)) ?_
  refine ak (ok_ldc tw551 (by decide +kernel)) ?_
  refine ak (ok_invS (kF_within hsd l) iF_within tw553 (by decide) tw552 (by decide +kernel)) ?_
  refine ak (ok_if_ne (off := 9) (by decide) (by decide +kernel)) ?_
  refine ak (ok_aload_n (k := 0) rfl (by decide +kernel)) ?_
  refine ak (ok_iconst (n := 1) (by decide) (by decide +kernel)) ?_
  refine ak (ok_invV (r := 0) (kF_finding hsd l) qF_finding ck10 kd0 iF_finding tw557 tw0 (by decide) tw555 (by decide +kernel)) ?_
  refine ak (ok_ireturn rfl (by decide +kernel)) ?_
  refine ak (ok_aload_n (k := 0) rfl (by decide +kernel)) ?_
  refine ak (ok_get (k := 0) ck10 kd0 (by decide) (fun _ _ _ => rfl) (vf_0_0 hsd) tw522 (by decide +kernel)) ?_
  refine ak (ok_iconst (n := 3) (by decide) (by decide +kernel)) ?_
  refine ak (ok_aload_n (k := 0) rfl (by decide +kernel)) ?_
  refine ak (ok_get (k := 0) ck10 kd0 (by decide) (fun _ _ _ => rfl) (vf_0_0 hsd) tw522 (by decide +kernel)) ?_
  refine ak (ok_get (k := 0) ck9 kd1 (by decide) (fun _ _ _ => rfl) (fun _ _ _ _ _ => trivial) tw387 (by decide +kernel)) ?_
  refine ak (ok_invV (r := 1) (kW_inForce hsd l) qW_inForce ck9 kd1 iW_inForce tw687 tw688 (by decide) tw795 (by decide +kernel)) ?_
  refine ak (ok_istore_n (k := 2) rfl (by decide) (by decide +kernel)) ?_
  refine ak (ok_iload_n (k := 2) rfl (by decide +kernel)) ?_
  refine ak (ok_if_ge (off := 7) (by decide) (by decide +kernel)) ?_
  refine ak (ok_iload_n (k := 1) rfl (by decide +kernel)) ?_
  refine ak (ok_iconst (n := 3) (by decide) (by decide +kernel)) ?_
  refine ak (ok_idiv (by decide +kernel)) ?_
  refine ak (ok_ireturn rfl (by decide +kernel)) ?_
  refine ak (ok_aload_n (k := 0) rfl (by decide +kernel)) ?_
  refine ak (ok_get (k := 0) ck10 kd0 (by decide) (fun _ _ _ => rfl) (vf_0_0 hsd) tw522 (by decide +kernel)) ?_
  refine ak (ok_get (k := 17) ck9 kd1 (by decide) (fun _ _ _ => rfl) (vf_1_17 hsd) tw423 (by decide +kernel)) ?_
  refine ak (ok_aload_n (k := 0) rfl (by decide +kernel)) ?_
  refine ak (ok_get (k := 0) ck10 kd0 (by decide) (fun _ _ _ => rfl) (vf_0_0 hsd) tw522 (by decide +kernel)) ?_
  refine ak (ok_get (k := 9) ck9 kd1 (by decide) (fun _ _ _ => rfl) (vf_1_9 hsd) tw407 (by decide +kernel)) ?_
  refine ak (ok_iload_n (k := 2) rfl (by decide +kernel)) ?_
  refine ak (ok_aald (t0 := 5) (C := RX6) kd11 (by decide) rfl (vr_11 hsd) (by decide +kernel)) ?_
  refine ak (ok_iload_n (k := 1) rfl (by decide +kernel)) ?_
  refine ak (ok_iconst (n := 0) (by decide) (by decide +kernel)) ?_
  refine ak (ok_iconst (n := 0) (by decide) (by decide +kernel)) ?_
  refine ak (ok_invV (r := 17) (kR_workOut hsd l) qR_workOut ck4 kd17 iR_workOut tw691 tw692 (by decide) tw800 (by decide +kernel)) ?_
  refine ak (ok_istore_n (k := 3) rfl (by decide) (by decide +kernel)) ?_
  refine ak (ok_iconst (n := 0) (by decide) (by decide +kernel)) ?_
  refine ak (ok_iload_n (k := 1) rfl (by decide +kernel)) ?_
  refine ak (ok_iload_n (k := 3) rfl (by decide +kernel)) ?_
  refine ak (ok_mmin (by decide) tw969 tw581 tw109 twMmin (by decide +kernel)) ?_
  refine ak (ok_mmax (by decide) tw1004 tw888 tw109 twMmax (by decide +kernel)) ?_
  refine ak (ok_ireturn rfl (by decide +kernel)) ?_
  exact trivial
set_option maxRecDepth 1000000 in
theorem eF_share (x1 : Int32) (M : Mem) : run (cF_share) (fun _ _ _ _ => none) rtI 400 (seek (cF_share) 0) [aR (0, 0, 0), aI x1, aU, aU] [] M = mF_share x1 M := id rfl
theorem lF_share {E : EV} {l : Launch} {p : Program} {e : Env} {s : State} {m : MethodId} {args : Array Value} {below : List Frame} {meth : Method} {c : Code} (A : AllOK E l 64 "FreeLances" prog_1_method_39_code 4 (some .int) outI (cF_share)) (C : Cx E p s m args meth c "FreeLances" prog_1_method_39_code 4 (some .int)) : ∀ (x1 : Int32) (M : Mem) (res : (Int32 × Mem)), mF_share x1 M = some res → Wm E p l e 64 s m args below meth c 4 0 [aR (0, 0, 0), aI x1, aU, aU] [] M (outI res).1 (outI res).2 := by
  intro x1 M res h
  refine run_at C A rfl hrtI (n := 400) ((eF_share x1 M).trans h) ?_
  intro t als st M hk; cases hk
def dF_share {β : Type} : Den β := fun as M k => match as with
  | [.inr (.inr (.inl (al0, bl0, cl0))), .inl x1] => if al0 = 0 ∧ bl0 = 0 ∧ cl0 = 0 then (mF_share x1 M).bind fun q => k (aI q.1) q.2 else none
  | _ => none
theorem wF_share {E : EV} (hsd : E.2.2.2 = 0) (l : Launch) (x1 : Int32) (M : Mem) (q : (Int32 × Mem)) (hq : mF_share x1 M = some q) : Con E l 64 yF_share prog_1_method_39_code 4 (some .int) [aR (0, 0, 0), aI x1] M (outI q).1 (outI q).2 := by
  refine con_of iF_share (Nat.le_of_ble_eq_true rfl) ?_
  intro p e s m args below meth c C
  exact lF_share (oF_share hsd l) C x1 M _ hq
theorem kF_share {E : EV} (hsd : E.2.2.2 = 0) (l : Launch) {β : Type} : DenOK E l 64 yF_share prog_1_method_39_code 4 (some .int) true (dF_share (β := β)) := by
  intro as M k res h
  unfold dF_share at h
  split at h
  ·
    split at h
    · rename_i hc
      obtain ⟨rfl, rfl, rfl⟩ := hc
      obtain ⟨q, hq, hk⟩ := Option.bind_eq_some_iff.mp h
      exact ⟨aI q.1, q.2, hk, rfl, wF_share hsd l _ M q hq⟩
    · cases h
  · cases h
theorem qF_share {β : Type} : RecOK 0 (dF_share (β := β)) := by
  intro as M k res h
  unfold dF_share at h
  split at h
  ·
    split at h
    · rename_i hc
      obtain ⟨rfl, rfl, rfl⟩ := hc
      exact ⟨_, _, _, rfl⟩
    · cases h
  · cases h
/-! ===== FreeLances.winter(III)I ===== -/
abbrev yF_winter : MethodName := ⟨"FreeLances", "winter", "(III)I"⟩
theorem iF_winter : MI yF_winter prog_1_method_40_code 6 (some .int) 3 := ⟨tw1008, tw97, ⟨by decide, by decide⟩, by decide +kernel, by decide, by decide⟩
def cF_winter : List (Ent (Int32 × Mem)) := [(false, 0, 1, sLdA 0),
  (false, 1, 1, sLdI 1),
  (false, 2, 3, sInv 2 true dF_isCompany),
  (false, 5, 3, sIfEq 27),
  (false, 8, 1, sLdA 0),
  (false, 9, 1, sLdI 2),
  (false, 10, 3, sInv 2 true dF_isTown),
  (false, 13, 3, sIfEq 27),
  (false, 16, 1, sLdI 3),
  (false, 17, 1, sC 0),
  (false, 18, 3, sC 9999),
  (false, 21, 3, sInv 3 true dF_within),
  (false, 24, 3, sIfNe 33),
  (false, 27, 1, sLdA 0),
  (false, 28, 1, sC 1),
  (false, 29, 3, sInv 2 true dF_finding),
  (false, 32, 1, sRetI),
  (false, 33, 1, sLdA 0),
  (false, 34, 3, sGet 0 (fun w i M => aR (1, 0, 0))),
  (false, 37, 3, sGet 1 (fun w i M => aR (5, w, 0))),
  (false, 40, 1, sLdI 1),
  (false, 41, 1, sAald 5 5 6),
  (false, 42, 3, sGet 6 (fun w i M => aR (8, w, i))),
  (false, 45, 2, sStA 4),
  (false, 47, 2, sLdA 4),
  (false, 49, 1, sLdI 2),
  (false, 50, 1, sIald 8 8),
  (false, 51, 2, sStI 5),
  (false, 53, 2, sLdA 4),
  (false, 55, 1, sLdI 2),
  (false, 56, 1, sLdI 3),
  (false, 57, 1, sIast 8 8),
  (false, 58, 2, sLdI 5),
  (false, 60, 1, sRetI)]
theorem oF_winter {E : EV} (hsd : E.2.2.2 = 0) (l : Launch) : AllOK E l 3 "FreeLances" prog_1_method_40_code 6 (some .int) outI (cF_winter) := by
  refine ak (ok_aload_n (k := 0) rfl (by decide +kernel)) ?_
  refine ak (ok_iload_n (k := 1) rfl (by decide +kernel)) ?_
  refine ak (ok_invV (r := 0) (kF_isCompany hsd l) qF_isCompany ck10 kd0 iF_isCompany tw620 tw2 (by decide) tw618 (by decide +kernel)) ?_
  refine ak (ok_if_eq (off := 22) (by decide) (by decide +kernel)) ?_
  refine ak (ok_aload_n (k := 0) rfl (by decide +kernel)) ?_
  refine ak (ok_iload_n (k := 2) rfl (by decide +kernel)) ?_
  refine ak (ok_invV (r := 0) (kF_isTown hsd l) qF_isTown ck10 kd0 iF_isTown tw570 tw1 (by decide) tw568 (by decide +kernel)) ?_
  refine ak (ok_if_eq (off := 14) (by decide) (by decide +kernel)) ?_
  refine ak (ok_iload_n (k := 3) rfl (by decide +kernel)) ?_
  refine ak (ok_iconst (n := 0) (by decide) (by decide +kernel)) ?_
  refine ak (ok_sipush (n := 9999) (by decide) (by decide +kernel)) ?_
  refine ak (ok_invS (kF_within hsd l) iF_within tw553 (by decide) tw552 (by decide +kernel)) ?_
  refine ak (ok_if_ne (off := 9) (by decide) (by decide +kernel)) ?_
  refine ak (ok_aload_n (k := 0) rfl (by decide +kernel)) ?_
  refine ak (ok_iconst (n := 1) (by decide) (by decide +kernel)) ?_
  refine ak (ok_invV (r := 0) (kF_finding hsd l) qF_finding ck10 kd0 iF_finding tw557 tw0 (by decide) tw555 (by decide +kernel)) ?_
  refine ak (ok_ireturn rfl (by decide +kernel)) ?_
  refine ak (ok_aload_n (k := 0) rfl (by decide +kernel)) ?_
  refine ak (ok_get (k := 0) ck10 kd0 (by decide) (fun _ _ _ => rfl) (vf_0_0 hsd) tw522 (by decide +kernel)) ?_
  refine ak (ok_get (k := 5) ck9 kd1 (by decide) (fun _ _ _ => rfl) (vf_1_5 hsd) tw398 (by decide +kernel)) ?_
  refine ak (ok_iload_n (k := 1) rfl (by decide +kernel)) ?_
  refine ak (ok_aald (t0 := 3) (C := RX1) kd5 (by decide) rfl (vr_5 hsd) (by decide +kernel)) ?_
  refine ak (ok_get (k := 13) ck1 kd6 (by decide) (fun _ _ _ => rfl) (vf_6_13 hsd) tw236 (by decide +kernel)) ?_
  refine ak (ok_astore (by decide) (by decide +kernel)) ?_
  refine ak (ok_aload (by decide +kernel)) ?_
  refine ak (ok_iload_n (k := 2) rfl (by decide +kernel)) ?_
  refine ak (ok_iald kd8 (by decide) (by decide +kernel)) ?_
  refine ak (ok_istore (by decide) (by decide +kernel)) ?_
  refine ak (ok_aload (by decide +kernel)) ?_
  refine ak (ok_iload_n (k := 2) rfl (by decide +kernel)) ?_
  refine ak (ok_iload_n (k := 3) rfl (by decide +kernel)) ?_
  refine ak (ok_iast kd8 (by decide) (by decide) (by decide +kernel)) ?_
  refine ak (ok_iload (by decide +kernel)) ?_
  refine ak (ok_ireturn rfl (by decide +kernel)) ?_
  exact trivial
set_option maxRecDepth 1000000 in
theorem eF_winter (x1 : Int32) (x2 : Int32) (x3 : Int32) (M : Mem) : run (cF_winter) (fun _ _ _ _ => none) rtI 400 (seek (cF_winter) 0) [aR (0, 0, 0), aI x1, aI x2, aI x3, aU, aU] [] M = mF_winter x1 x2 x3 M := id rfl
theorem lF_winter {E : EV} {l : Launch} {p : Program} {e : Env} {s : State} {m : MethodId} {args : Array Value} {below : List Frame} {meth : Method} {c : Code} (A : AllOK E l 3 "FreeLances" prog_1_method_40_code 6 (some .int) outI (cF_winter)) (C : Cx E p s m args meth c "FreeLances" prog_1_method_40_code 6 (some .int)) : ∀ (x1 : Int32) (x2 : Int32) (x3 : Int32) (M : Mem) (res : (Int32 × Mem)), mF_winter x1 x2 x3 M = some res → Wm E p l e 3 s m args below meth c 6 0 [aR (0, 0, 0), aI x1, aI x2, aI x3, aU, aU] [] M (outI res).1 (outI res).2 := by
  intro x1 x2 x3 M res h
  refine run_at C A rfl hrtI (n := 400) ((eF_winter x1 x2 x3 M).trans h) ?_
  intro t als st M hk; cases hk
def dF_winter {β : Type} : Den β := fun as M k => match as with
  | [.inr (.inr (.inl (al0, bl0, cl0))), .inl x1, .inl x2, .inl x3] => if al0 = 0 ∧ bl0 = 0 ∧ cl0 = 0 then (mF_winter x1 x2 x3 M).bind fun q => k (aI q.1) q.2 else none
  | _ => none
theorem wF_winter {E : EV} (hsd : E.2.2.2 = 0) (l : Launch) (x1 : Int32) (x2 : Int32) (x3 : Int32) (M : Mem) (q : (Int32 × Mem)) (hq : mF_winter x1 x2 x3 M = some q) : Con E l 3 yF_winter prog_1_method_40_code 6 (some .int) [aR (0, 0, 0), aI x1, aI x2, aI x3] M (outI q).1 (outI q).2 := by
  refine con_of iF_winter (Nat.le_of_ble_eq_true rfl) ?_
  intro p e s m args below meth c C
  exact lF_winter (oF_winter hsd l) C x1 x2 x3 M _ hq
theorem kF_winter {E : EV} (hsd : E.2.2.2 = 0) (l : Launch) {β : Type} : DenOK E l 3 yF_winter prog_1_method_40_code 6 (some .int) true (dF_winter (β := β)) := by
  intro as M k res h
  unfold dF_winter at h
  split at h
  ·
    split at h
    · rename_i hc
      obtain ⟨rfl, rfl, rfl⟩ := hc
      obtain ⟨q, hq, hk⟩ := Option.bind_eq_some_iff.mp h
      exact ⟨aI q.1, q.2, hk, rfl, wF_winter hsd l _ _ _ M q hq⟩
    · cases h
  · cases h
theorem qF_winter {β : Type} : RecOK 0 (dF_winter (β := β)) := by
  intro as M k res h
  unfold dF_winter at h
  split at h
  ·
    split at h
    · rename_i hc
      obtain ⟨rfl, rfl, rfl⟩ := hc
      exact ⟨_, _, _, rfl⟩
    · cases h
  · cases h
