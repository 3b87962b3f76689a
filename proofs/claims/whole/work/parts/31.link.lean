/-! ===== FreeLancesModel.inForce(II)I ===== -/
abbrev yK_inForce : MethodName := ⟨"FreeLancesModel", "inForce", "(II)I"⟩
theorem iK_inForce : MI yK_inForce prog_13_method_51_code 5 (some .int) 2 := ⟨tw1449, tw108, ⟨by decide, by decide⟩, by decide +kernel, by decide, by decide⟩
def cK_inForce : List (Ent (Int32 × Mem)) := [(false, 0, 1, sC (-1)),
  (false, 1, 1, sStI 3),
  (false, 2, 1, sC 0),
  (false, 3, 2, sStI 4),
  (true, 5, 2, sLdI 4),
  (false, 7, 1, sLdA 0),
  (false, 8, 3, sGet 40 (fun w i M => aR (41, 0, 0))),
  (false, 11, 1, sC 4),
  (false, 12, 1, sIald 41 1502),
  (false, 13, 3, sCmpGe 67),
  (false, 16, 1, sLdA 0),
  (false, 17, 3, sGet 40 (fun w i M => aR (41, 0, 0))),
  (false, 20, 3, sC 420),
  (false, 23, 2, sC 53),
  (false, 25, 2, sLdI 4),
  (false, 27, 1, sBin (fun x y => x * y)),
  (false, 28, 1, sBin (fun x y => x + y)),
  (false, 29, 1, sIald 41 1502),
  (false, 30, 1, sLdI 1),
  (false, 31, 3, sCmpNe 59),
  (false, 34, 1, sLdA 0),
  (false, 35, 3, sGet 40 (fun w i M => aR (41, 0, 0))),
  (false, 38, 3, sC 420),
  (false, 41, 2, sC 53),
  (false, 43, 2, sLdI 4),
  (false, 45, 1, sBin (fun x y => x * y)),
  (false, 46, 1, sBin (fun x y => x + y)),
  (false, 47, 1, sC 1),
  (false, 48, 1, sBin (fun x y => x + y)),
  (false, 49, 1, sIald 41 1502),
  (false, 50, 1, sLdI 2),
  (false, 51, 3, sCmpGt 59),
  (false, 54, 2, sLdI 4),
  (false, 56, 3, sGoto 60),
  (false, 59, 1, sLdI 3),
  (false, 60, 1, sStI 3),
  (false, 61, 3, sInc 4 1),
  (false, 64, 3, sGoto 5),
  (false, 67, 1, sLdI 3),
  (false, 68, 1, sRetI)]
theorem oK_inForce {E : EV} (hsd : E.2.2.2 = 1) (l : Launch) : AllOK E l 1 "FreeLancesModel" prog_13_method_51_code 5 (some .int) outI (cK_inForce) := by
  refine ak (ok_iconst (n := (-1)) (by decide) (by decide +kernel)) ?_
  refine ak (ok_istore_n (k := 3) rfl (by decide) (by decide +kernel)) ?_
  refine ak (ok_iconst (n := 0) (by decide) (by decide +kernel)) ?_
  refine ak (ok_istore (by decide) (by decide +kernel)) ?_
  refine ak (ok_iload (by decide +kernel)) ?_
  refine ak (ok_aload_n (k := 0) rfl (by decide +kernel)) ?_
  refine ak (ok_get (k := 0) ck11 kd40 (by decide) (fun _ _ _ => rfl) (vf_40_0 hsd) tw1242 (by decide +kernel)) ?_
  refine ak (ok_iconst (n := 4) (by decide) (by decide +kernel)) ?_
  refine ak (ok_iald kd41 (by decide) (by decide +kernel)) ?_
  refine ak (ok_icmp_ge (off := 54) (by decide) (by decide +kernel)) ?_
  refine ak (ok_aload_n (k := 0) rfl (by decide +kernel)) ?_
  refine ak (ok_get (k := 0) ck11 kd40 (by decide) (fun _ _ _ => rfl) (vf_40_0 hsd) tw1242 (by decide +kernel)) ?_
  refine ak (ok_sipush (n := 420) (by decide) (by decide +kernel)) ?_
  refine ak (ok_bipush (n := 53) (by decide) (by decide +kernel)) ?_
  refine ak (ok_iload (by decide +kernel)) ?_
  refine ak (ok_imul (by decide +kernel)) ?_
  refine ak (ok_iadd (by decide +kernel)) ?_
  refine ak (ok_iald kd41 (by decide) (by decide +kernel)) ?_
  refine ak (ok_iload_n (k := 1) rfl (by decide +kernel)) ?_
  refine ak (ok_icmp_ne (off := 28) (by decide) (by decide +kernel)) ?_
  refine ak (ok_aload_n (k := 0) rfl (by decide +kernel)) ?_
  refine ak (ok_get (k := 0) ck11 kd40 (by decide) (fun _ _ _ => rfl) (vf_40_0 hsd) tw1242 (by decide +kernel)) ?_
  refine ak (ok_sipush (n := 420) (by decide) (by decide +kernel)) ?_
  refine ak (ok_bipush (n := 53) (by decide) (by decide +kernel)) ?_
  refine ak (ok_iload (by decide +kernel)) ?_
  refine ak (ok_imul (by decide +kernel)) ?_
  refine ak (ok_iadd (by decide +kernel)) ?_
  refine ak (ok_iconst (n := 1) (by decide) (by decide +kernel)) ?_
  refine ak (ok_iadd (by decide +kernel)) ?_
  refine ak (ok_iald kd41 (by decide) (by decide +kernel)) ?_
  refine ak (ok_iload_n (k := 2) rfl (by decide +kernel)) ?_
  refine ak (ok_icmp_gt (off := 8) (by decide) (by decide +kernel)) ?_
  refine ak (ok_iload (by decide +kernel)) ?_
  refine ak (ok_goto (off := 4) (by decide) (by decide +kernel)) ?_
  refine ak (ok_iload_n (k := 3) rfl (by decide +kernel)) ?_
  refine ak (ok_istore_n (k := 3) rfl (by decide) (by decide +kernel)) ?_
  refine ak (ok_iinc (n := 1) (by decide) (by decide) (by decide +kernel)) ?_
  refine ak (ok_goto (off := (-59)) (by decide) (by decide +kernel)) ?_
  refine ak (ok_iload_n (k := 3) rfl (by decide +kernel)) ?_
  refine ak (ok_ireturn rfl (by decide +kernel)) ?_
  exact trivial
def KK_inForce_5 (j5 : Int32 → Int32 → Int32 → Int32 → Mem → Option (Int32 × Mem)) : Jm (Int32 × Mem) := fun t als st M =>
  if t = 5 then (match als, st with
  | [.inr (.inr (.inl (al0, bl0, cl0))), .inl x1, .inl x2, .inl x3, .inl x4], [] => if al0 = 40 ∧ bl0 = 0 ∧ cl0 = 0 then j5 x1 x2 x3 x4 M else none
  | _, _ => none) else
  none
set_option maxRecDepth 1000000 in
theorem eK_inForce_5 (j5 : Int32 → Int32 → Int32 → Int32 → Mem → Option (Int32 × Mem)) (x1 : Int32) (x2 : Int32) (x3 : Int32) (x4 : Int32) (M : Mem) : run (cK_inForce) (KK_inForce_5 j5) rtI 400 (seek (cK_inForce) 5) [aR (40, 0, 0), aI x1, aI x2, aI x3, aI x4] [] M = mK_inForce_5b j5 x1 x2 x3 x4 M := id rfl
theorem lK_inForce_5 {E : EV} {l : Launch} {p : Program} {e : Env} {s : State} {m : MethodId} {args : Array Value} {below : List Frame} {meth : Method} {c : Code} (A : AllOK E l 1 "FreeLancesModel" prog_13_method_51_code 5 (some .int) outI (cK_inForce)) (C : Cx E p s m args meth c "FreeLancesModel" prog_13_method_51_code 5 (some .int)) : ∀ (n : Nat), ∀ (x1 : Int32) (x2 : Int32) (x3 : Int32) (x4 : Int32) (M : Mem) (res : (Int32 × Mem)), mK_inForce_5 n x1 x2 x3 x4 M = some res → Wm E p l e 1 s m args below meth c 5 5 [aR (40, 0, 0), aI x1, aI x2, aI x3, aI x4] [] M (outI res).1 (outI res).2 := by
  intro n
  induction n with
  | zero => intro _ _ _ _ M res h; cases h
  | succ n ih =>
    intro x1 x2 x3 x4 M res h
    refine run_at C A rfl hrtI (n := 400) ((eK_inForce_5 (mK_inForce_5 n) x1 x2 x3 x4 M).trans h) ?_
    intro t als st M hk
    unfold KK_inForce_5 at hk
    split at hk
    · rename_i ht
      subst ht
      split at hk
      · split at hk
        · rename_i hc
          obtain ⟨rfl, rfl, rfl⟩ := hc
          exact ih _ _ _ _ _ _ hk
        · cases hk
      · cases hk
    cases hk
def KK_inForce (j5 : Int32 → Int32 → Int32 → Int32 → Mem → Option (Int32 × Mem)) : Jm (Int32 × Mem) := fun t als st M =>
  if t = 5 then (match als, st with
  | [.inr (.inr (.inl (al0, bl0, cl0))), .inl x1, .inl x2, .inl x3, .inl x4], [] => if al0 = 40 ∧ bl0 = 0 ∧ cl0 = 0 then j5 x1 x2 x3 x4 M else none
  | _, _ => none) else
  none
set_option maxRecDepth 1000000 in
theorem eK_inForce (j5 : Int32 → Int32 → Int32 → Int32 → Mem → Option (Int32 × Mem)) (x1 : Int32) (x2 : Int32) (M : Mem) : run (cK_inForce) (KK_inForce j5) rtI 400 (seek (cK_inForce) 0) [aR (40, 0, 0), aI x1, aI x2, aU, aU] [] M = mK_inForceb j5 x1 x2 M := id rfl
theorem lK_inForce {E : EV} {l : Launch} {p : Program} {e : Env} {s : State} {m : MethodId} {args : Array Value} {below : List Frame} {meth : Method} {c : Code} (A : AllOK E l 1 "FreeLancesModel" prog_13_method_51_code 5 (some .int) outI (cK_inForce)) (C : Cx E p s m args meth c "FreeLancesModel" prog_13_method_51_code 5 (some .int)) : ∀ (x1 : Int32) (x2 : Int32) (M : Mem) (res : (Int32 × Mem)), mK_inForce x1 x2 M = some res → Wm E p l e 1 s m args below meth c 5 0 [aR (40, 0, 0), aI x1, aI x2, aU, aU] [] M (outI res).1 (outI res).2 := by
  intro x1 x2 M res h
  refine run_at C A rfl hrtI (n := 400) ((eK_inForce (mK_inForce_5 fuel) x1 x2 M).trans h) ?_
  intro t als st M hk
  unfold KK_inForce at hk
  split at hk
  · rename_i ht
    subst ht
    split at hk
    · split at hk
      · rename_i hc
        obtain ⟨rfl, rfl, rfl⟩ := hc
        exact lK_inForce_5 A C _ _ _ _ _ _ _ hk
      · cases hk
    · cases hk
  cases hk
def dK_inForce {β : Type} : Den β := fun as M k => match as with
  | [.inr (.inr (.inl (al0, bl0, cl0))), .inl x1, .inl x2] => if al0 = 40 ∧ bl0 = 0 ∧ cl0 = 0 then (mK_inForce x1 x2 M).bind fun q => k (aI q.1) q.2 else none
  | _ => none
theorem wK_inForce {E : EV} (hsd : E.2.2.2 = 1) (l : Launch) (x1 : Int32) (x2 : Int32) (M : Mem) (q : (Int32 × Mem)) (hq : mK_inForce x1 x2 M = some q) : Con E l 1 yK_inForce prog_13_method_51_code 5 (some .int) [aR (40, 0, 0), aI x1, aI x2] M (outI q).1 (outI q).2 := by
  refine con_of iK_inForce (Nat.le_of_ble_eq_true rfl) ?_
  intro p e s m args below meth c C
  exact lK_inForce (oK_inForce hsd l) C x1 x2 M _ hq
theorem kK_inForce {E : EV} (hsd : E.2.2.2 = 1) (l : Launch) {β : Type} : DenOK E l 1 yK_inForce prog_13_method_51_code 5 (some .int) true (dK_inForce (β := β)) := by
  intro as M k res h
  unfold dK_inForce at h
  split at h
  ·
    split at h
    · rename_i hc
      obtain ⟨rfl, rfl, rfl⟩ := hc
      obtain ⟨q, hq, hk⟩ := Option.bind_eq_some_iff.mp h
      exact ⟨aI q.1, q.2, hk, rfl, wK_inForce hsd l _ _ M q hq⟩
    · cases h
  · cases h
theorem qK_inForce {β : Type} : RecOK 40 (dK_inForce (β := β)) := by
  intro as M k res h
  unfold dK_inForce at h
  split at h
  ·
    split at h
    · rename_i hc
      obtain ⟨rfl, rfl, rfl⟩ := hc
      exact ⟨_, _, _, rfl⟩
    · cases h
  · cases h
/-! ===== FreeLancesModel.done(III)I ===== -/
abbrev yK_done : MethodName := ⟨"FreeLancesModel", "done", "(III)I"⟩
theorem iK_done : MI yK_done prog_13_method_53_code 3 (some .int) 3 := ⟨tw1456, tw108, ⟨by decide, by decide⟩, by decide +kernel, by decide, by decide⟩
def cK_done : List (Ent (Int32 × Mem)) := [(false, 0, 1, sLdI 0),
  (false, 1, 75, sSw 149 [(38, 90), (42, 145), (43, 137), (45, 141), (60, 104), (61, 115), (62, 126), (124, 76)]),
  (false, 76, 1, sLdI 1),
  (false, 77, 3, sIfNe 84),
  (false, 80, 1, sLdI 2),
  (false, 81, 3, sIfEq 88),
  (false, 84, 1, sC 1),
  (false, 85, 3, sGoto 89),
  (false, 88, 1, sC 0),
  (false, 89, 1, sRetI),
  (false, 90, 1, sLdI 1),
  (false, 91, 3, sIfEq 102),
  (false, 94, 1, sLdI 2),
  (false, 95, 3, sIfEq 102),
  (false, 98, 1, sC 1),
  (false, 99, 3, sGoto 103),
  (false, 102, 1, sC 0),
  (false, 103, 1, sRetI),
  (false, 104, 1, sLdI 1),
  (false, 105, 1, sLdI 2),
  (false, 106, 3, sCmpGe 113),
  (false, 109, 1, sC 1),
  (false, 110, 3, sGoto 114),
  (false, 113, 1, sC 0),
  (false, 114, 1, sRetI),
  (false, 115, 1, sLdI 1),
  (false, 116, 1, sLdI 2),
  (false, 117, 3, sCmpNe 124),
  (false, 120, 1, sC 1),
  (false, 121, 3, sGoto 125),
  (false, 124, 1, sC 0),
  (false, 125, 1, sRetI),
  (false, 126, 1, sLdI 1),
  (false, 127, 1, sLdI 2),
  (false, 128, 3, sCmpLe 135),
  (false, 131, 1, sC 1),
  (false, 132, 3, sGoto 136),
  (false, 135, 1, sC 0),
  (false, 136, 1, sRetI),
  (false, 137, 1, sLdI 1),
  (false, 138, 1, sLdI 2),
  (false, 139, 1, sBin (fun x y => x + y)),
  (false, 140, 1, sRetI),
  (false, 141, 1, sLdI 1),
  (false, 142, 1, sLdI 2),
  (false, 143, 1, sBin (fun x y => x - y)),
  (false, 144, 1, sRetI),
  (false, 145, 1, sLdI 1),
  (false, 146, 1, sLdI 2),
  (false, 147, 1, sBin (fun x y => x * y)),
  (false, 148, 1, sRetI),
  (false, 149, 1, sLdI 2),
  (false, 150, 3, sIfNe 157),
  (false, 153, 1, sC 0),
  (false, 154, 3, sGoto 160),
  (false, 157, 1, sLdI 1),
  (false, 158, 1, sLdI 2),
  (false, 159, 1, sBin0 (fun x y => x / y)),
  (false, 160, 1, sRetI)]
theorem oK_done {E : EV} (hsd : E.2.2.2 = 1) (l : Launch) : AllOK E l 1 "FreeLancesModel" prog_13_method_53_code 3 (some .int) outI (cK_done) := by
  refine ak (ok_iload_n (k := 0) rfl (by decide +kernel)) ?_
  refine ak (ok_lookup (df := 148) (ps := #[(38, 89), (42, 144), (43, 136), (45, 140), (60, 103), (61, 114), (62, 125), (124, 75)]) (by decide) (by decide) (by decide) (by decide +kernel)) ?_
  refine ak (ok_iload_n (k := 1) rfl (by decide +kernel)) ?_
  refine ak (ok_if_ne (off := 7) (by decide) (by decide +kernel)) ?_
  refine ak (ok_iload_n (k := 2) rfl (by decide +kernel)) ?_
  refine ak (ok_if_eq (off := 7) (by decide) (by decide +kernel)) ?_
  refine ak (ok_iconst (n := 1) (by decide) (by decide +kernel)) ?_
  refine ak (ok_goto (off := 4) (by decide) (by decide +kernel)) ?_
  refine ak (ok_iconst (n := 0) (by decide) (by decide +kernel)) ?_
  refine ak (ok_ireturn rfl (by decide +kernel)) ?_
  refine ak (ok_iload_n (k := 1) rfl (by decide +kernel)) ?_
  refine ak (ok_if_eq (off := 11) (by decide) (by decide +kernel)) ?_
  refine ak (ok_iload_n (k := 2) rfl (by decide +kernel)) ?_
  refine ak (ok_if_eq (off := 7) (by decide) (by decide +kernel)) ?_
  refine ak (ok_iconst (n := 1) (by decide) (by decide +kernel)) ?_
  refine ak (ok_goto (off := 4) (by decide) (by decide +kernel)) ?_
  refine ak (ok_iconst (n := 0) (by decide) (by decide +kernel)) ?_
  refine ak (ok_ireturn rfl (by decide +kernel)) ?_
  refine ak (ok_iload_n (k := 1) rfl (by decide +kernel)) ?_
  refine ak (ok_iload_n (k := 2) rfl (by decide +kernel)) ?_
  refine ak (ok_icmp_ge (off := 7) (by decide) (by decide +kernel)) ?_
  refine ak (ok_iconst (n := 1) (by decide) (by decide +kernel)) ?_
  refine ak (ok_goto (off := 4) (by decide) (by decide +kernel)) ?_
  refine ak (ok_iconst (n := 0) (by decide) (by decide +kernel)) ?_
  refine ak (ok_ireturn rfl (by decide +kernel)) ?_
  refine ak (ok_iload_n (k := 1) rfl (by decide +kernel)) ?_
  refine ak (ok_iload_n (k := 2) rfl (by decide +kernel)) ?_
  refine ak (ok_icmp_ne (off := 7) (by decide) (by decide +kernel)) ?_
  refine ak (ok_iconst (n := 1) (by decide) (by decide +kernel)) ?_
  refine ak (ok_goto (off := 4) (by decide) (by decide +kernel)) ?_
  refine ak (ok_iconst (n := 0) (by decide) (by decide +kernel)) ?_
  refine ak (ok_ireturn rfl (by decide +kernel)) ?_
  refine ak (ok_iload_n (k := 1) rfl (by decide +kernel)) ?_
  refine ak (ok_iload_n (k := 2) rfl (by decide +kernel)) ?_
  refine ak (ok_icmp_le (off := 7) (by decide) (by decide +kernel)) ?_
  refine ak (ok_iconst (n := 1) (by decide) (by decide +kernel)) ?_
  refine ak (ok_goto (off := 4) (by decide) (by decide +kernel)) ?_
  refine ak (ok_iconst (n := 0) (by decide) (by decide +kernel)) ?_
  refine ak (ok_ireturn rfl (by decide +kernel)) ?_
  refine ak (ok_iload_n (k := 1) rfl (by decide +kernel)) ?_
  refine ak (ok_iload_n (k := 2) rfl (by decide +kernel)) ?_
  refine ak (ok_iadd (by decide +kernel)) ?_
  refine ak (ok_ireturn rfl (by decide +kernel)) ?_
  refine ak (ok_iload_n (k := 1) rfl (by decide +kernel)) ?_
  refine ak (ok_iload_n (k := 2) rfl (by decide +kernel)) ?_
  refine ak (ok_isub (by decide +kernel)) ?_
  refine ak (ok_ireturn rfl (by decide +kernel)) ?_
  refine ak (ok_iload_n (k := 1) rfl (by decide +kernel)) ?_
  refine ak (ok_iload_n (k := 2) rfl (by decide +kernel)) ?_
  refine ak (ok_imul (by decide +kernel)) ?_
  refine ak (ok_ireturn rfl (by decide +kernel)) ?_
  refine ak (ok_iload_n (k := 2) rfl (by decide +kernel)) ?_
  refine ak (ok_if_ne (off := 7) (by decide) (by decide +kernel)) ?_
  refine ak (ok_iconst (n := 0) (by decide) (by decide +kernel)) ?_
  refine ak (ok_goto (off := 6) (by decide) (by decide +kernel)) ?_
  refine ak (ok_iload_n (k := 1) rfl (by decide +kernel)) ?_
  refine ak (ok_iload_n (k := 2) rfl (by decide +kernel)) ?_
  refine ak (ok_idiv (by decide +kernel)) ?_
  refine ak (ok_ireturn rfl (by decide +kernel)) ?_
  exact trivial
set_option maxRecDepth 1000000 in
theorem eK_done (x0 : Int32) (x1 : Int32) (x2 : Int32) (M : Mem) : run (cK_done) (fun _ _ _ _ => none) rtI 400 (seek (cK_done) 0) [aI x0, aI x1, aI x2] [] M = mK_done x0 x1 x2 M := id rfl
theorem lK_done {E : EV} {l : Launch} {p : Program} {e : Env} {s : State} {m : MethodId} {args : Array Value} {below : List Frame} {meth : Method} {c : Code} (A : AllOK E l 1 "FreeLancesModel" prog_13_method_53_code 3 (some .int) outI (cK_done)) (C : Cx E p s m args meth c "FreeLancesModel" prog_13_method_53_code 3 (some .int)) : ∀ (x0 : Int32) (x1 : Int32) (x2 : Int32) (M : Mem) (res : (Int32 × Mem)), mK_done x0 x1 x2 M = some res → Wm E p l e 1 s m args below meth c 3 0 [aI x0, aI x1, aI x2] [] M (outI res).1 (outI res).2 := by
  intro x0 x1 x2 M res h
  refine run_at C A rfl hrtI (n := 400) ((eK_done x0 x1 x2 M).trans h) ?_
  intro t als st M hk; cases hk
def dK_done {β : Type} : Den β := fun as M k => match as with
  | [.inl x0, .inl x1, .inl x2] => (mK_done x0 x1 x2 M).bind fun q => k (aI q.1) q.2
  | _ => none
theorem wK_done {E : EV} (hsd : E.2.2.2 = 1) (l : Launch) (x0 : Int32) (x1 : Int32) (x2 : Int32) (M : Mem) (q : (Int32 × Mem)) (hq : mK_done x0 x1 x2 M = some q) : Con E l 1 yK_done prog_13_method_53_code 3 (some .int) [aI x0, aI x1, aI x2] M (outI q).1 (outI q).2 := by
  refine con_of iK_done (Nat.le_of_ble_eq_true rfl) ?_
  intro p e s m args below meth c C
  exact lK_done (oK_done hsd l) C x0 x1 x2 M _ hq
theorem kK_done {E : EV} (hsd : E.2.2.2 = 1) (l : Launch) {β : Type} : DenOK E l 1 yK_done prog_13_method_53_code 3 (some .int) true (dK_done (β := β)) := by
  intro as M k res h
  unfold dK_done at h
  split at h
  · obtain ⟨q, hq, hk⟩ := Option.bind_eq_some_iff.mp h
    exact ⟨aI q.1, q.2, hk, rfl, wK_done hsd l _ _ _ M q hq⟩
  · cases h
/-! ===== FreeLancesModel.comesTo(IIII)I ===== -/
abbrev yK_comesTo : MethodName := ⟨"FreeLancesModel", "comesTo", "(IIII)I"⟩
theorem iK_comesTo : MI yK_comesTo prog_13_method_54_code 9 (some .int) 4 := ⟨tw1453, tw108, ⟨by decide, by decide⟩, by decide +kernel, by decide, by decide⟩
def cK_comesTo : List (Ent (Int32 × Mem)) := [(false, 0, 1, sLdA 0),
  (false, 1, 3, sGet 40 (fun w i M => aR (50, 0, 0))),
  (false, 4, 1, sC 0),
  (false, 5, 1, sLdI 2),
  (false, 6, 1, sIast 50 3),
  (false, 7, 1, sLdA 0),
  (false, 8, 3, sGet 40 (fun w i M => aR (50, 0, 0))),
  (false, 11, 1, sC 1),
  (false, 12, 1, sLdI 3),
  (false, 13, 1, sIast 50 3),
  (false, 14, 1, sLdA 0),
  (false, 15, 3, sGet 40 (fun w i M => aR (50, 0, 0))),
  (false, 18, 1, sC 2),
  (false, 19, 2, sLdI 4),
  (false, 21, 1, sIast 50 3),
  (false, 22, 1, sC 0),
  (false, 23, 2, sStI 5),
  (false, 25, 3, sC 420),
  (false, 28, 2, sC 53),
  (false, 30, 1, sLdI 1),
  (false, 31, 1, sBin (fun x y => x * y)),
  (false, 32, 1, sBin (fun x y => x + y)),
  (false, 33, 1, sC 3),
  (false, 34, 1, sBin (fun x y => x + y)),
  (false, 35, 2, sStI 6),
  (false, 37, 2, sLdI 6),
  (false, 39, 2, sStI 7),
  (true, 41, 2, sLdI 7),
  (false, 43, 2, sLdI 6),
  (false, 45, 1, sLdA 0),
  (false, 46, 3, sGet 40 (fun w i M => aR (41, 0, 0))),
  (false, 49, 2, sLdI 6),
  (false, 51, 1, sC 1),
  (false, 52, 1, sBin (fun x y => x - y)),
  (false, 53, 1, sIald 41 1502),
  (false, 54, 1, sBin (fun x y => x + y)),
  (false, 55, 3, sCmpGe 185),
  (false, 58, 1, sLdA 0),
  (false, 59, 3, sGet 40 (fun w i M => aR (41, 0, 0))),
  (false, 62, 2, sLdI 7),
  (false, 64, 1, sIald 41 1502),
  (false, 65, 2, sStI 8),
  (false, 67, 2, sLdI 8),
  (false, 69, 2, sC (-100)),
  (false, 71, 3, sCmpLe 106),
  (false, 74, 1, sLdA 0),
  (false, 75, 3, sGet 40 (fun w i M => aR (49, 0, 0))),
  (false, 78, 2, sLdI 5),
  (false, 80, 2, sLdI 8),
  (false, 82, 3, sIfGe 97),
  (false, 85, 1, sLdA 0),
  (false, 86, 3, sGet 40 (fun w i M => aR (50, 0, 0))),
  (false, 89, 1, sC (-1)),
  (false, 90, 2, sLdI 8),
  (false, 92, 1, sBin (fun x y => x - y)),
  (false, 93, 1, sIald 50 3),
  (false, 94, 3, sGoto 99),
  (false, 97, 2, sLdI 8),
  (false, 99, 1, sIast 49 50),
  (false, 100, 3, sInc 5 1),
  (false, 103, 3, sGoto 179),
  (false, 106, 2, sLdI 8),
  (false, 108, 3, sC (-133)),
  (false, 111, 3, sCmpNe 143),
  (false, 114, 1, sLdA 0),
  (false, 115, 3, sGet 40 (fun w i M => aR (49, 0, 0))),
  (false, 118, 2, sLdI 5),
  (false, 120, 1, sC 1),
  (false, 121, 1, sBin (fun x y => x - y)),
  (false, 122, 1, sLdA 0),
  (false, 123, 3, sGet 40 (fun w i M => aR (49, 0, 0))),
  (false, 126, 2, sLdI 5),
  (false, 128, 1, sC 1),
  (false, 129, 1, sBin (fun x y => x - y)),
  (false, 130, 1, sIald 49 50),
  (false, 131, 3, sIfNe 138),
  (false, 134, 1, sC 1),
  (false, 135, 3, sGoto 139),
  (false, 138, 1, sC 0),
  (false, 139, 1, sIast 49 50),
  (false, 140, 3, sGoto 179),
  (false, 143, 3, sInc 5 (-1)),
  (false, 146, 1, sLdA 0),
  (false, 147, 3, sGet 40 (fun w i M => aR (49, 0, 0))),
  (false, 150, 2, sLdI 5),
  (false, 152, 1, sC 1),
  (false, 153, 1, sBin (fun x y => x - y)),
  (false, 154, 2, sC (-100)),
  (false, 156, 2, sLdI 8),
  (false, 158, 1, sBin (fun x y => x - y)),
  (false, 159, 1, sLdA 0),
  (false, 160, 3, sGet 40 (fun w i M => aR (49, 0, 0))),
  (false, 163, 2, sLdI 5),
  (false, 165, 1, sC 1),
  (false, 166, 1, sBin (fun x y => x - y)),
  (false, 167, 1, sIald 49 50),
  (false, 168, 1, sLdA 0),
  (false, 169, 3, sGet 40 (fun w i M => aR (49, 0, 0))),
  (false, 172, 2, sLdI 5),
  (false, 174, 1, sIald 49 50),
  (false, 175, 3, sInv 3 true dK_done),
  (false, 178, 1, sIast 49 50),
  (false, 179, 3, sInc 7 1),
  (false, 182, 3, sGoto 41),
  (false, 185, 1, sLdA 0),
  (false, 186, 3, sGet 40 (fun w i M => aR (49, 0, 0))),
  (false, 189, 1, sC 0),
  (false, 190, 1, sIald 49 50),
  (false, 191, 1, sRetI)]
theorem oK_comesTo {E : EV} (hsd : E.2.2.2 = 1) (l : Launch) : AllOK E l 2 "FreeLancesModel" prog_13_method_54_code 9 (some .int) outI (cK_comesTo) := by
  refine ak (ok_aload_n (k := 0) rfl (by decide +kernel)) ?_
  refine ak (ok_get (k := 9) ck11 kd40 (by decide) (fun _ _ _ => rfl) (vf_40_9 hsd) tw1251 (by decide +kernel)) ?_
  refine ak (ok_iconst (n := 0) (by decide) (by decide +kernel)) ?_
  refine ak (ok_iload_n (k := 2) rfl (by decide +kernel)) ?_
  refine ak (ok_iast kd50 (by decide) (by decide) (by decide +kernel)) ?_
  refine ak (ok_aload_n (k := 0) rfl (by decide +kernel)) ?_
  refine ak (ok_get (k := 9) ck11 kd40 (by decide) (fun _ _ _ => rfl) (vf_40_9 hsd) tw1251 (by decide +kernel)) ?_
  refine ak (ok_iconst (n := 1) (by decide) (by decide +kernel)) ?_
  refine ak (ok_iload_n (k := 3) rfl (by decide +kernel)) ?_
  refine ak (ok_iast kd50 (by decide) (by decide) (by decide +kernel)) ?_
  refine ak (ok_aload_n (k := 0) rfl (by decide +kernel)) ?_
  refine ak (ok_get (k := 9) ck11 kd40 (by decide) (fun _ _ _ => rfl) (vf_40_9 hsd) tw1251 (by decide +kernel)) ?_
  refine ak (ok_iconst (n := 2) (by decide) (by decide +kernel)) ?_
  refine ak (ok_iload (by decide +kernel)) ?_
  refine ak (ok_iast kd50 (by decide) (by decide) (by decide +kernel)) ?_
  refine ak (ok_iconst (n := 0) (by decide) (by decide +kernel)) ?_
  refine ak (ok_istore (by decide) (by decide +kernel)) ?_
  refine ak (ok_sipush (n := 420) (by decide) (by decide +kernel)) ?_
  refine ak (ok_bipush (n := 53) (by decide) (by decide +kernel)) ?_
  refine ak (ok_iload_n (k := 1) rfl (by decide +kernel)) ?_
  refine ak (ok_imul (by decide +kernel)) ?_
  refine ak (ok_iadd (by decide +kernel)) ?_
  refine ak (ok_iconst (n := 3) (by decide) (by decide +kernel)) ?_
  refine ak (ok_iadd (by decide +kernel)) ?_
  refine ak (ok_istore (by decide) (by decide +kernel)) ?_
  refine ak (ok_iload (by decide +kernel)) ?_
  refine ak (ok_istore (by decide) (by decide +kernel)) ?_
  refine ak (ok_iload (by decide +kernel)) ?_
  refine ak (ok_iload (by decide +kernel)) ?_
  refine ak (ok_aload_n (k := 0) rfl (by decide +kernel)) ?_
  refine ak (ok_get (k := 0) ck11 kd40 (by decide) (fun _ _ _ => rfl) (vf_40_0 hsd) tw1242 (by decide +kernel)) ?_
  refine ak (ok_iload (by decide +kernel)) ?_
  refine ak (ok_iconst (n := 1) (by decide) (by decide +kernel)) ?_
  refine ak (ok_isub (by decide +kernel)) ?_
  refine ak (ok_iald kd41 (by decide) (by decide +kernel)) ?_
  refine ak (ok_iadd (by decide +kernel)) ?_
  refine ak (ok_icmp_ge (off := 130) (by decide) (by decide +kernel)) ?_
  refine ak (ok_aload_n (k := 0) rfl (by decide +kernel)) ?_
  refine ak (ok_get (k := 0) ck11 kd40 (by decide) (fun _ _ _ => rfl) (vf_40_0 hsd) tw1242 (by decide +kernel)) ?_
  refine ak (ok_iload (by decide +kernel)) ?_
  refine ak (ok_iald kd41 (by decide) (by decide +kernel)) ?_
  refine ak (ok_istore (by decide) (by decide +kernel)) ?_
  refine ak (ok_iload (by decide +kernel)) ?_
  refine ak (ok_bipush (n := (-100)) (by decide) (by decide +kernel)) ?_
  refine ak (ok_icmp_le (off := 35) (by decide) (by decide +kernel)) ?_
  refine ak (ok_aload_n (k := 0) rfl (by decide +kernel)) ?_
  refine ak (ok_get (k := 8) ck11 kd40 (by decide) (fun _ _ _ => rfl) (vf_40_8 hsd) tw1250 (by decide +kernel)) ?_
  refine ak (ok_iload (by decide +kernel)) ?_
  refine ak (ok_iload (by decide +kernel)) ?_
  refine ak (ok_if_ge (off := 15) (by decide) (by decide +kernel)) ?_
  refine ak (ok_aload_n (k := 0) rfl (by decide +kernel)) ?_
  refine ak (ok_get (k := 9) ck11 kd40 (by decide) (fun _ _ _ => rfl) (vf_40_9 hsd) tw1251 (by decide +kernel)) ?_
  refine ak (ok_iconst (n := (-1)) (by decide) (by decide +kernel)) ?_
  refine ak (ok_iload (by decide +kernel)) ?_
  refine ak (ok_isub (by decide +kernel)) ?_
  refine ak (ok_iald kd50 (by decide) (by decide +kernel)) ?_
  refine ak (ok_goto (off := 5) (by decide) (by decide +kernel)) ?_
  refine ak (ok_iload (by decide +kernel)) ?_
  refine ak (ok_iast kd49 (by decide) (by decide) (by decide +kernel)) ?_
  refine ak (ok_iinc (n := 1) (by decide) (by decide) (by decide +kernel)) ?_
  refine ak (ok_goto (off := 76) (by decide) (by decide +kernel)) ?_
  refine ak (ok_iload (by decide +kernel)) ?_
  refine ak (ok_sipush (n := (-133)) (by decide) (by decide +kernel)) ?_
  refine ak (ok_icmp_ne (off := 32) (by decide) (by decide +kernel)) ?_
  refine ak (ok_aload_n (k := 0) rfl (by decide +kernel)) ?_
  refine ak (ok_get (k := 8) ck11 kd40 (by decide) (fun _ _ _ => rfl) (vf_40_8 hsd) tw1250 (by decide +kernel)) ?_
  refine ak (ok_iload (by decide +kernel)) ?_
  refine ak (ok_iconst (n := 1) (by decide) (by decide +kernel)) ?_
  refine ak (ok_isub (by decide +kernel)) ?_
  refine ak (ok_aload_n (k := 0) rfl (by decide +kernel)) ?_
  refine ak (ok_get (k := 8) ck11 kd40 (by decide) (fun _ _ _ => rfl) (vf_40_8 hsd) tw1250 (by decide +kernel)) ?_
  refine ak (ok_iload (by decide +kernel)) ?_
  refine ak (ok_iconst (n := 1) (by decide) (by decide +kernel)) ?_
  refine ak (ok_isub (by decide +kernel)) ?_
  refine ak (ok_iald kd49 (by decide) (by decide +kernel)) ?_
  refine ak (ok_if_ne (off := 7) (by decide) (by decide +kernel)) ?_
  refine ak (ok_iconst (n := 1) (by decide) (by decide +kernel)) ?_
  refine ak (ok_goto (off := 4) (by decide) (by decide +kernel)) ?_
  refine ak (ok_iconst (n := 0) (by decide) (by decide +kernel)) ?_
  refine ak (ok_iast kd49 (by decide) (by decide) (by decide +kernel)) ?_
  refine ak (ok_goto (off := 39) (by decide) (by decide +kernel)) ?_
  refine ak (ok_iinc (n := (-1)) (by decide) (by decide) (by decide +kernel)) ?_
  refine ak (ok_aload_n (k := 0) rfl (by decide +kernel)) ?_
  refine ak (ok_get (k := 8) ck11 kd40 (by decide) (fun _ _ _ => rfl) (vf_40_8 hsd) tw1250 (by decide +kernel)) ?_
  refine ak (ok_iload (by decide +kernel)) ?_
  refine ak (ok_iconst (n := 1) (by decide) (by decide +kernel)) ?_
  refine ak (ok_isub (by decide +kernel)) ?_
  refine ak (ok_bipush (n := (-100)) (by decide) (by decide +kernel)) ?_
  refine ak (ok_iload (by decide +kernel)) ?_
  refine ak (ok_isub (by decide +kernel)) ?_
  refine ak (ok_aload_n (k := 0) rfl (by decide +kernel)) ?_
  refine ak (ok_get (k := 8) ck11 kd40 (by decide) (fun _ _ _ => rfl) (vf_40_8 hsd) tw1250 (by decide +kernel)) ?_
  refine ak (ok_iload (by decide +kernel)) ?_
  refine ak (ok_iconst (n := 1) (by decide) (by decide +kernel)) ?_
  refine ak (ok_isub (by decide +kernel)) ?_
  refine ak (ok_iald kd49 (by decide) (by decide +kernel)) ?_
  refine ak (ok_aload_n (k := 0) rfl (by decide +kernel)) ?_
  refine ak (ok_get (k := 8) ck11 kd40 (by decide) (fun _ _ _ => rfl) (vf_40_8 hsd) tw1250 (by decide +kernel)) ?_
  refine ak (ok_iload (by decide +kernel)) ?_
  refine ak (ok_iald kd49 (by decide) (by decide +kernel)) ?_
  refine ak (ok_invS (kK_done hsd l) iK_done tw1455 (by decide) tw1454 (by decide +kernel)) ?_
  refine ak (ok_iast kd49 (by decide) (by decide) (by decide +kernel)) ?_
  refine ak (ok_iinc (n := 1) (by decide) (by decide) (by decide +kernel)) ?_
  refine ak (ok_goto (off := (-141)) (by decide) (by decide +kernel)) ?_
  refine ak (ok_aload_n (k := 0) rfl (by decide +kernel)) ?_
  refine ak (ok_get (k := 8) ck11 kd40 (by decide) (fun _ _ _ => rfl) (vf_40_8 hsd) tw1250 (by decide +kernel)) ?_
  refine ak (ok_iconst (n := 0) (by decide) (by decide +kernel)) ?_
  refine ak (ok_iald kd49 (by decide) (by decide +kernel)) ?_
  refine ak (ok_ireturn rfl (by decide +kernel)) ?_
  exact trivial
def KK_comesTo_41 (j41 : Int32 → Int32 → Int32 → Mem → Option (Int32 × Mem)) : Jm (Int32 × Mem) := fun t als st M =>
  if t = 41 then (match als, st with
  | [.inr (.inr (.inl (al0, bl0, cl0))), _, _, _, _, .inl x5, .inl x6, .inl x7, _], [] => if al0 = 40 ∧ bl0 = 0 ∧ cl0 = 0 then j41 x5 x6 x7 M else none
  | _, _ => none) else
  none
def cK_comesToF (f : Int32 → Int32 → Int32) (c : Int32) : List (Ent (Int32 × Mem)) := [(false, 0, 1, sLdA 0),
  (false, 1, 3, sGet 40 (fun w i M => aR (50, 0, 0))),
  (false, 4, 1, sC 0),
  (false, 5, 1, sLdI 2),
  (false, 6, 1, sIast 50 3),
  (false, 7, 1, sLdA 0),
  (false, 8, 3, sGet 40 (fun w i M => aR (50, 0, 0))),
  (false, 11, 1, sC 1),
  (false, 12, 1, sLdI 3),
  (false, 13, 1, sIast 50 3),
  (false, 14, 1, sLdA 0),
  (false, 15, 3, sGet 40 (fun w i M => aR (50, 0, 0))),
  (false, 18, 1, sC 2),
  (false, 19, 2, sLdI 4),
  (false, 21, 1, sIast 50 3),
  (false, 22, 1, sC 0),
  (false, 23, 2, sStI 5),
  (false, 25, 3, sC 420),
  (false, 28, 2, sC 53),
  (false, 30, 1, sLdI 1),
  (false, 31, 1, sBin (fun x y => x * y)),
  (false, 32, 1, sBin (fun x y => x + y)),
  (false, 33, 1, sC 3),
  (false, 34, 1, sBin (fun x y => x + y)),
  (false, 35, 2, sStI 6),
  (false, 37, 2, sLdI 6),
  (false, 39, 2, sStI 7),
  (true, 41, 2, sLdI 7),
  (false, 43, 2, sLdI 6),
  (false, 45, 1, sLdA 0),
  (false, 46, 3, sGet 40 (fun w i M => aR (41, 0, 0))),
  (false, 49, 2, sLdI 6),
  (false, 51, 1, sC 1),
  (false, 52, 1, sBin (fun x y => x - y)),
  (false, 53, 1, sIald 41 1502),
  (false, 54, 1, sBin (fun x y => x + y)),
  (false, 55, 3, sCmpGe 185),
  (false, 58, 1, sLdA 0),
  (false, 59, 3, sGet 40 (fun w i M => aR (41, 0, 0))),
  (false, 62, 2, sLdI 7),
  (false, 64, 1, sIald 41 1502),
  (false, 65, 2, sStI 8),
  (false, 67, 2, sLdI 8),
  (false, 69, 2, sC (-100)),
  (false, 71, 3, sCmpLe 106),
  (false, 74, 1, sLdA 0),
  (false, 75, 3, sGet 40 (fun w i M => aR (49, 0, 0))),
  (false, 78, 2, sLdI 5),
  (false, 80, 2, sLdI 8),
  (false, 82, 3, sIfGe 97),
  (false, 85, 1, sLdA 0),
  (false, 86, 3, sGet 40 (fun w i M => aR (50, 0, 0))),
  (false, 89, 1, sC (-1)),
  (false, 90, 2, sLdI 8),
  (false, 92, 1, sBin f),
  (false, 93, 1, sIald 50 3),
  (false, 94, 3, sGoto 99),
  (false, 97, 2, sLdI 8),
  (false, 99, 1, sIast 49 50),
  (false, 100, 3, sInc 5 1),
  (false, 103, 3, sGoto 179),
  (false, 106, 2, sLdI 8),
  (false, 108, 3, sC (-133)),
  (false, 111, 3, sCmpNe 143),
  (false, 114, 1, sLdA 0),
  (false, 115, 3, sGet 40 (fun w i M => aR (49, 0, 0))),
  (false, 118, 2, sLdI 5),
  (false, 120, 1, sC 1),
  (false, 121, 1, sBin (fun x y => x - y)),
  (false, 122, 1, sLdA 0),
  (false, 123, 3, sGet 40 (fun w i M => aR (49, 0, 0))),
  (false, 126, 2, sLdI 5),
  (false, 128, 1, sC 1),
  (false, 129, 1, sBin (fun x y => x - y)),
  (false, 130, 1, sIald 49 50),
  (false, 131, 3, sIfNe 138),
  (false, 134, 1, sC 1),
  (false, 135, 3, sGoto 139),
  (false, 138, 1, sC 0),
  (false, 139, 1, sIast 49 50),
  (false, 140, 3, sGoto 179),
  (false, 143, 3, sInc 5 c),
  (false, 146, 1, sLdA 0),
  (false, 147, 3, sGet 40 (fun w i M => aR (49, 0, 0))),
  (false, 150, 2, sLdI 5),
  (false, 152, 1, sC 1),
  (false, 153, 1, sBin (fun x y => x - y)),
  (false, 154, 2, sC (-100)),
  (false, 156, 2, sLdI 8),
  (false, 158, 1, sBin f),
  (false, 159, 1, sLdA 0),
  (false, 160, 3, sGet 40 (fun w i M => aR (49, 0, 0))),
  (false, 163, 2, sLdI 5),
  (false, 165, 1, sC 1),
  (false, 166, 1, sBin (fun x y => x - y)),
  (false, 167, 1, sIald 49 50),
  (false, 168, 1, sLdA 0),
  (false, 169, 3, sGet 40 (fun w i M => aR (49, 0, 0))),
  (false, 172, 2, sLdI 5),
  (false, 174, 1, sIald 49 50),
  (false, 175, 3, sInv 3 true dK_done),
  (false, 178, 1, sIast 49 50),
  (false, 179, 3, sInc 7 1),
  (false, 182, 3, sGoto 41),
  (false, 185, 1, sLdA 0),
  (false, 186, 3, sGet 40 (fun w i M => aR (49, 0, 0))),
  (false, 189, 1, sC 0),
  (false, 190, 1, sIald 49 50),
  (false, 191, 1, sRetI)]
set_option maxRecDepth 1000000 in
theorem eK_comesToF_41 (f : Int32 → Int32 → Int32) (c : Int32) (j41 : Int32 → Int32 → Int32 → Mem → Option (Int32 × Mem)) (x5 : Int32) (x6 : Int32) (x7 : Int32) (M : Mem) (u1 u2 u3 u4 u8 : AV) : run (cK_comesToF f c) (KK_comesTo_41 j41) rtI 400 (seek (cK_comesToF f c) 41) [aR (40, 0, 0), u1, u2, u3, u4, aI x5, aI x6, aI x7, u8] [] M =
  ixx (x6 - 1) 1502 fun k1 =>
  if x7 < (x6 + (M 41 0 0 k1)) then
    ixx x7 1502 fun k2 =>
    if (M 41 0 0 k2) ≤ (-100) then
      if (M 41 0 0 k2) = (-133) then
        ixx (x5 - 1) 50 fun k3 =>
        if (M 49 0 0 k3) = 0 then
          ixx (x5 - 1) 50 fun k5 =>
          let M4 : Mem := up M 49 0 0 k5 1
          j41 x5 x6 (x7 + 1) M4
        else
          ixx (x5 - 1) 50 fun k7 =>
          let M6 : Mem := up M 49 0 0 k7 0
          j41 x5 x6 (x7 + 1) M6
      else
        ixx ((x5 + c) - 1) 50 fun k8 =>
        ixx (x5 + c) 50 fun k9 =>
        (mK_done (f (-100) (M 41 0 0 k2)) (M 49 0 0 k8) (M 49 0 0 k9) M).bind fun q10 =>
        ixx ((x5 + c) - 1) 50 fun k12 =>
        let M11 : Mem := up q10.2 49 0 0 k12 q10.1
        j41 (x5 + c) x6 (x7 + 1) M11
    else
      if (M 41 0 0 k2) < 0 then
        ixx (f (-1) (M 41 0 0 k2)) 3 fun k13 =>
        ixx x5 50 fun k15 =>
        let M14 : Mem := up M 49 0 0 k15 (M 50 0 0 k13)
        j41 (x5 + 1) x6 (x7 + 1) M14
      else
        ixx x5 50 fun k17 =>
        let M16 : Mem := up M 49 0 0 k17 (M 41 0 0 k2)
        j41 (x5 + 1) x6 (x7 + 1) M16
  else
    some (M 49 0 0 0, M) := id rfl
set_option maxRecDepth 1000000 in
theorem eK_comesTo_41 (j41 : Int32 → Int32 → Int32 → Mem → Option (Int32 × Mem)) (x5 : Int32) (x6 : Int32) (x7 : Int32) (M : Mem) (u1 u2 u3 u4 u8 : AV) : run (cK_comesTo) (KK_comesTo_41 j41) rtI 400 (seek (cK_comesTo) 41) [aR (40, 0, 0), u1, u2, u3, u4, aI x5, aI x6, aI x7, u8] [] M = mK_comesTo_41b j41 x5 x6 x7 M := eK_comesToF_41 (fun x y => x - y) (-1) j41 x5 x6 x7 M u1 u2 u3 u4 u8
theorem lK_comesTo_41 {E : EV} {l : Launch} {p : Program} {e : Env} {s : State} {m : MethodId} {args : Array Value} {below : List Frame} {meth : Method} {c : Code} (A : AllOK E l 2 "FreeLancesModel" prog_13_method_54_code 9 (some .int) outI (cK_comesTo)) (C : Cx E p s m args meth c "FreeLancesModel" prog_13_method_54_code 9 (some .int)) : ∀ (n : Nat), ∀ (x5 : Int32) (x6 : Int32) (x7 : Int32) (M : Mem) (res : (Int32 × Mem)), mK_comesTo_41 n x5 x6 x7 M = some res → ∀ (u1 u2 u3 u4 u8 : AV), Wm E p l e 2 s m args below meth c 9 41 [aR (40, 0, 0), u1, u2, u3, u4, aI x5, aI x6, aI x7, u8] [] M (outI res).1 (outI res).2 := by
  intro n
  induction n with
  | zero => intro _ _ _ M res h; cases h
  | succ n ih =>
    intro x5 x6 x7 M res h u1 u2 u3 u4 u8
    refine run_at C A rfl hrtI (n := 400) ((eK_comesTo_41 (mK_comesTo_41 n) x5 x6 x7 M u1 u2 u3 u4 u8).trans h) ?_
    intro t als st M hk
    unfold KK_comesTo_41 at hk
    split at hk
    · rename_i ht
      subst ht
      split at hk
      · split at hk
        · rename_i hc
          obtain ⟨rfl, rfl, rfl⟩ := hc
          exact ih _ _ _ _ _ hk _ _ _ _ _
        · cases hk
      · cases hk
    cases hk
def KK_comesTo (j41 : Int32 → Int32 → Int32 → Mem → Option (Int32 × Mem)) : Jm (Int32 × Mem) := fun t als st M =>
  if t = 41 then (match als, st with
  | [.inr (.inr (.inl (al0, bl0, cl0))), _, _, _, _, .inl x5, .inl x6, .inl x7, _], [] => if al0 = 40 ∧ bl0 = 0 ∧ cl0 = 0 then j41 x5 x6 x7 M else none
  | _, _ => none) else
  none
set_option maxRecDepth 1000000 in
theorem eK_comesTo (j41 : Int32 → Int32 → Int32 → Mem → Option (Int32 × Mem)) (x1 : Int32) (x2 : Int32) (x3 : Int32) (x4 : Int32) (M : Mem) : run (cK_comesTo) (KK_comesTo j41) rtI 400 (seek (cK_comesTo) 0) [aR (40, 0, 0), aI x1, aI x2, aI x3, aI x4, aU, aU, aU, aU] [] M = mK_comesTob j41 x1 x2 x3 x4 M := id rfl
theorem lK_comesTo {E : EV} {l : Launch} {p : Program} {e : Env} {s : State} {m : MethodId} {args : Array Value} {below : List Frame} {meth : Method} {c : Code} (A : AllOK E l 2 "FreeLancesModel" prog_13_method_54_code 9 (some .int) outI (cK_comesTo)) (C : Cx E p s m args meth c "FreeLancesModel" prog_13_method_54_code 9 (some .int)) : ∀ (x1 : Int32) (x2 : Int32) (x3 : Int32) (x4 : Int32) (M : Mem) (res : (Int32 × Mem)), mK_comesTo x1 x2 x3 x4 M = some res → Wm E p l e 2 s m args below meth c 9 0 [aR (40, 0, 0), aI x1, aI x2, aI x3, aI x4, aU, aU, aU, aU] [] M (outI res).1 (outI res).2 := by
  intro x1 x2 x3 x4 M res h
  refine run_at C A rfl hrtI (n := 400) ((eK_comesTo (mK_comesTo_41 fuel) x1 x2 x3 x4 M).trans h) ?_
  intro t als st M hk
  unfold KK_comesTo at hk
  split at hk
  · rename_i ht
    subst ht
    split at hk
    · split at hk
      · rename_i hc
        obtain ⟨rfl, rfl, rfl⟩ := hc
        exact lK_comesTo_41 A C _ _ _ _ _ _ hk _ _ _ _ _
      · cases hk
    · cases hk
  cases hk
def dK_comesTo {β : Type} : Den β := fun as M k => match as with
  | [.inr (.inr (.inl (al0, bl0, cl0))), .inl x1, .inl x2, .inl x3, .inl x4] => if al0 = 40 ∧ bl0 = 0 ∧ cl0 = 0 then (mK_comesTo x1 x2 x3 x4 M).bind fun q => k (aI q.1) q.2 else none
  | _ => none
theorem wK_comesTo {E : EV} (hsd : E.2.2.2 = 1) (l : Launch) (x1 : Int32) (x2 : Int32) (x3 : Int32) (x4 : Int32) (M : Mem) (q : (Int32 × Mem)) (hq : mK_comesTo x1 x2 x3 x4 M = some q) : Con E l 2 yK_comesTo prog_13_method_54_code 9 (some .int) [aR (40, 0, 0), aI x1, aI x2, aI x3, aI x4] M (outI q).1 (outI q).2 := by
  refine con_of iK_comesTo (Nat.le_of_ble_eq_true rfl) ?_
  intro p e s m args below meth c C
  exact lK_comesTo (oK_comesTo hsd l) C x1 x2 x3 x4 M _ hq
theorem kK_comesTo {E : EV} (hsd : E.2.2.2 = 1) (l : Launch) {β : Type} : DenOK E l 2 yK_comesTo prog_13_method_54_code 9 (some .int) true (dK_comesTo (β := β)) := by
  intro as M k res h
  unfold dK_comesTo at h
  split at h
  ·
    split at h
    · rename_i hc
      obtain ⟨rfl, rfl, rfl⟩ := hc
      obtain ⟨q, hq, hk⟩ := Option.bind_eq_some_iff.mp h
      exact ⟨aI q.1, q.2, hk, rfl, wK_comesTo hsd l _ _ _ _ M q hq⟩
    · cases h
  · cases h
theorem qK_comesTo {β : Type} : RecOK 40 (dK_comesTo (β := β)) := by
  intro as M k res h
  unfold dK_comesTo at h
  split at h
  ·
    split at h
    · rename_i hc
      obtain ⟨rfl, rfl, rfl⟩ := hc
      exact ⟨_, _, _, rfl⟩
    · cases h
  · cases h
/-! ===== FreeLancesModel.mayLeave(I)Z ===== -/
abbrev yK_mayLeave : MethodName := ⟨"FreeLancesModel", "mayLeave", "(I)Z"⟩
theorem iK_mayLeave : MI yK_mayLeave prog_13_method_35_code 5 (some .boolean) 1 := ⟨tw1445, tw108, ⟨by decide, by decide⟩, by decide +kernel, by decide, by decide⟩
def cK_mayLeave : List (Ent (Int32 × Mem)) := [(false, 0, 1, sLdA 0),
  (false, 1, 1, sLdI 1),
  (false, 2, 1, sLdA 0),
  (false, 3, 3, sGet 40 (fun w i M => aR (41, 0, 0))),
  (false, 6, 2, sC 6),
  (false, 8, 1, sIald 41 1502),
  (false, 9, 3, sInv 3 true dK_servedOn),
  (false, 12, 3, sIfGe 17),
  (false, 15, 1, sC 1),
  (false, 16, 1, sRetZ),
  (false, 17, 1, sLdA 0),
  (false, 18, 1, sC 2),
  (false, 19, 1, sLdA 0),
  (false, 20, 3, sGet 40 (fun w i M => aR (41, 0, 0))),
  (false, 23, 2, sC 6),
  (false, 25, 1, sIald 41 1502),
  (false, 26, 3, sInv 3 true dK_inForce),
  (false, 29, 1, sStI 2),
  (false, 30, 1, sC 0),
  (false, 31, 1, sStI 3),
  (true, 32, 1, sLdI 3),
  (false, 33, 1, sLdA 0),
  (false, 34, 3, sGet 40 (fun w i M => aR (41, 0, 0))),
  (false, 37, 1, sC 5),
  (false, 38, 1, sIald 41 1502),
  (false, 39, 3, sCmpGe 130),
  (false, 42, 1, sLdA 0),
  (false, 43, 1, sLdI 3),
  (false, 44, 3, sInv 2 true dK_isContract),
  (false, 47, 3, sIfEq 124),
  (false, 50, 1, sLdA 0),
  (false, 51, 1, sLdI 3),
  (false, 52, 1, sC 1),
  (false, 53, 3, sInv 3 true dK_bond),
  (false, 56, 1, sLdI 1),
  (false, 57, 3, sCmpNe 124),
  (false, 60, 1, sLdA 0),
  (false, 61, 1, sLdI 3),
  (false, 62, 2, sC 8),
  (false, 64, 3, sInv 3 true dK_bond),
  (false, 67, 3, sIfNe 73),
  (false, 70, 3, sGoto 124),
  (false, 73, 1, sLdA 0),
  (false, 74, 3, sGet 40 (fun w i M => aR (41, 0, 0))),
  (false, 77, 2, sC 6),
  (false, 79, 1, sIald 41 1502),
  (false, 80, 1, sLdA 0),
  (false, 81, 1, sLdI 3),
  (false, 82, 2, sC 9),
  (false, 84, 3, sInv 3 true dK_bond),
  (false, 87, 1, sBin (fun x y => x - y)),
  (false, 88, 2, sStI 4),
  (false, 90, 1, sLdI 2),
  (false, 91, 3, sIfGe 104),
  (false, 94, 2, sLdI 4),
  (false, 96, 2, sC 60),
  (false, 98, 3, sCmpLe 124),
  (false, 101, 3, sGoto 122),
  (false, 104, 1, sLdA 0),
  (false, 105, 1, sLdI 2),
  (false, 106, 2, sLdI 4),
  (false, 108, 1, sLdA 0),
  (false, 109, 1, sLdI 3),
  (false, 110, 2, sC 8),
  (false, 112, 3, sInv 3 true dK_bond),
  (false, 115, 1, sC 0),
  (false, 116, 3, sInv 5 true dK_comesTo),
  (false, 119, 3, sIfEq 124),
  (false, 122, 1, sC 1),
  (false, 123, 1, sRetZ),
  (false, 124, 3, sInc 3 1),
  (false, 127, 3, sGoto 32),
  (false, 130, 1, sC 0),
  (false, 131, 1, sRetZ)]
theorem oK_mayLeave {E : EV} (hsd : E.2.2.2 = 1) (l : Launch) : AllOK E l 4 "FreeLancesModel" prog_13_method_35_code 5 (some .boolean) outI (cK_mayLeave) := by
  refine ak (ok_aload_n (k := 0) rfl (by decide +kernel)) ?_
  refine ak (ok_iload_n (k := 1) rfl (by decide +kernel)) ?_
  refine ak (ok_aload_n (k := 0) rfl (by decide +kernel)) ?_
  refine ak (ok_get (k := 0) ck11 kd40 (by decide) (fun _ _ _ => rfl) (vf_40_0 hsd) tw1242 (by decide +kernel)) ?_
  refine ak (ok_bipush (n := 6) (by decide) (by decide +kernel)) ?_
  refine ak (ok_iald kd41 (by decide) (by decide +kernel)) ?_
  refine ak (ok_invV (r := 40) (kK_servedOn hsd l) qK_servedOn ck11 kd40 iK_servedOn tw1412 tw47 (by decide) tw1410 (by decide +kernel)) ?_
  refine ak (ok_if_ge (off := 5) (by decide) (by decide +kernel)) ?_
  refine ak (ok_iconst (n := 1) (by decide) (by decide +kernel)) ?_
  refine ak (ok_zreturn rfl (by decide +kernel)) ?_
  refine ak (ok_aload_n (k := 0) rfl (by decide +kernel)) ?_
  refine ak (ok_iconst (n := 2) (by decide) (by decide +kernel)) ?_
  refine ak (ok_aload_n (k := 0) rfl (by decide +kernel)) ?_
  refine ak (ok_get (k := 0) ck11 kd40 (by decide) (fun _ _ _ => rfl) (vf_40_0 hsd) tw1242 (by decide +kernel)) ?_
  refine ak (ok_bipush (n := 6) (by decide) (by decide +kernel)) ?_
  refine ak (ok_iald kd41 (by decide) (by decide +kernel)) ?_
  refine ak (ok_invV (r := 40) (kK_inForce hsd l) qK_inForce ck11 kd40 iK_inForce tw1448 tw53 (by decide) tw1446 (by decide +kernel)) ?_
  refine ak (ok_istore_n (k := 2) rfl (by decide) (by decide +kernel)) ?_
  refine ak (ok_iconst (n := 0) (by decide) (by decide +kernel)) ?_
  refine ak (ok_istore_n (k := 3) rfl (by decide) (by decide +kernel)) ?_
  refine ak (ok_iload_n (k := 3) rfl (by decide +kernel)) ?_
  refine ak (ok_aload_n (k := 0) rfl (by decide +kernel)) ?_
  refine ak (ok_get (k := 0) ck11 kd40 (by decide) (fun _ _ _ => rfl) (vf_40_0 hsd) tw1242 (by decide +kernel)) ?_
  refine ak (ok_iconst (n := 5) (by decide) (by decide +kernel)) ?_
  refine ak (ok_iald kd41 (by decide) (by decide +kernel)) ?_
  refine ak (ok_icmp_ge (off := 91) (by decide) (by decide +kernel)) ?_
  refine ak (ok_aload_n (k := 0) rfl (by decide +kernel)) ?_
  refine ak (ok_iload_n (k := 3) rfl (by decide +kernel)) ?_
  refine ak (ok_invV (r := 40) (kK_isContract hsd l) qK_isContract ck11 kd40 iK_isContract tw1416 tw48 (by decide) tw1414 (by decide +kernel)) ?_
  refine ak (ok_if_eq (off := 77) (by decide) (by decide +kernel)) ?_
  refine ak (ok_aload_n (k := 0) rfl (by decide +kernel)) ?_
  refine ak (ok_iload_n (k := 3) rfl (by decide +kernel)) ?_
  refine ak (ok_iconst (n := 1) (by decide) (by decide +kernel)) ?_
  refine ak (ok_invV (r := 40) (kK_bond hsd l) qK_bond ck11 kd40 iK_bond tw1420 tw49 (by decide) tw1418 (by decide +kernel)) ?_
  refine ak (ok_iload_n (k := 1) rfl (by decide +kernel)) ?_
  refine ak (ok_icmp_ne (off := 67) (by decide) (by decide +kernel)) ?_
  refine ak (ok_aload_n (k := 0) rfl (by decide +kernel)) ?_
  refine ak (ok_iload_n (k := 3) rfl (by decide +kernel)) ?_
  refine ak (ok_bipush (n := 8) (by decide) (by decide +kernel)) ?_
  refine ak (ok_invV (r := 40) (kK_bond hsd l) qK_bond ck11 kd40 iK_bond tw1420 tw49 (by decide) tw1418 (by decide +kernel)) ?_
  refine ak (ok_if_ne (off := 6) (by decide) (by decide +kernel)) ?_
  refine ak (ok_goto (off := 54) (by decide) (by decide +kernel)) ?_
  refine ak (ok_aload_n (k := 0) rfl (by decide +kernel)) ?_
  refine ak (ok_get (k := 0) ck11 kd40 (by decide) (fun _ _ _ => rfl) (vf_40_0 hsd) tw1242 (by decide +kernel)) ?_
  refine ak (ok_bipush (n := 6) (by decide) (by decide +kernel)) ?_
  refine ak (ok_iald kd41 (by decide) (by decide +kernel)) ?_
  refine ak (ok_aload_n (k := 0) rfl (by decide +kernel)) ?_
  refine ak (ok_iload_n (k := 3) rfl (by decide +kernel)) ?_
  refine ak (ok_bipush (n := 9) (by decide) (by decide +kernel)) ?_
  refine ak (ok_invV (r := 40) (kK_bond hsd l) qK_bond ck11 kd40 iK_bond tw1420 tw49 (by decide) tw1418 (by decide +kernel)) ?_
  refine ak (ok_isub (by decide +kernel)) ?_
  refine ak (ok_istore (by decide) (by decide +kernel)) ?_
  refine ak (ok_iload_n (k := 2) rfl (by decide +kernel)) ?_
  refine ak (ok_if_ge (off := 13) (by decide) (by decide +kernel)) ?_
  refine ak (ok_iload (by decide +kernel)) ?_
  refine ak (ok_bipush (n := 60) (by decide) (by decide +kernel)) ?_
  refine ak (ok_icmp_le (off := 26) (by decide) (by decide +kernel)) ?_
  refine ak (ok_goto (off := 21) (by decide) (by decide +kernel)) ?_
  refine ak (ok_aload_n (k := 0) rfl (by decide +kernel)) ?_
  refine ak (ok_iload_n (k := 2) rfl (by decide +kernel)) ?_
  refine ak (ok_iload (by decide +kernel)) ?_
  refine ak (ok_aload_n (k := 0) rfl (by decide +kernel)) ?_
  refine ak (ok_iload_n (k := 3) rfl (by decide +kernel)) ?_
  refine ak (ok_bipush (n := 8) (by decide) (by decide +kernel)) ?_
  refine ak (ok_invV (r := 40) (kK_bond hsd l) qK_bond ck11 kd40 iK_bond tw1420 tw49 (by decide) tw1418 (by decide +kernel)) ?_
  refine ak (ok_iconst (n := 0) (by decide) (by decide +kernel)) ?_
  refine ak (ok_invV (r := 40) (kK_comesTo hsd l) qK_comesTo ck11 kd40 iK_comesTo tw1452 tw54 (by decide) tw1450 (by decide +kernel)) ?_
  refine ak (ok_if_eq (off := 5) (by decide) (by decide +kernel)) ?_
  refine ak (ok_iconst (n := 1) (by decide) (by decide +kernel)) ?_
  refine ak (ok_zreturn rfl (by decide +kernel)) ?_
  refine ak (ok_iinc (n := 1) (by decide) (by decide) (by decide +kernel)) ?_
  refine ak (ok_goto (off := (-95)) (by decide) (by decide +kernel)) ?_
  refine ak (ok_iconst (n := 0) (by decide) (by decide +kernel)) ?_
  refine ak (ok_zreturn rfl (by decide +kernel)) ?_
  exact trivial
def KK_mayLeave_32 (j32 : Int32 → Int32 → Int32 → Mem → Option (Int32 × Mem)) : Jm (Int32 × Mem) := fun t als st M =>
  if t = 32 then (match als, st with
  | [.inr (.inr (.inl (al0, bl0, cl0))), .inl x1, .inl x2, .inl x3, _], [] => if al0 = 40 ∧ bl0 = 0 ∧ cl0 = 0 then j32 x1 x2 x3 M else none
  | _, _ => none) else
  none
set_option maxRecDepth 1000000 in
theorem eK_mayLeave_32 (j32 : Int32 → Int32 → Int32 → Mem → Option (Int32 × Mem)) (x1 : Int32) (x2 : Int32) (x3 : Int32) (M : Mem) (u4 : AV) : run (cK_mayLeave) (KK_mayLeave_32 j32) rtI 400 (seek (cK_mayLeave) 32) [aR (40, 0, 0), aI x1, aI x2, aI x3, u4] [] M = mK_mayLeave_32b j32 x1 x2 x3 M := id rfl
theorem lK_mayLeave_32 {E : EV} {l : Launch} {p : Program} {e : Env} {s : State} {m : MethodId} {args : Array Value} {below : List Frame} {meth : Method} {c : Code} (A : AllOK E l 4 "FreeLancesModel" prog_13_method_35_code 5 (some .boolean) outI (cK_mayLeave)) (C : Cx E p s m args meth c "FreeLancesModel" prog_13_method_35_code 5 (some .boolean)) : ∀ (n : Nat), ∀ (x1 : Int32) (x2 : Int32) (x3 : Int32) (M : Mem) (res : (Int32 × Mem)), mK_mayLeave_32 n x1 x2 x3 M = some res → ∀ (u4 : AV), Wm E p l e 4 s m args below meth c 5 32 [aR (40, 0, 0), aI x1, aI x2, aI x3, u4] [] M (outI res).1 (outI res).2 := by
  intro n
  induction n with
  | zero => intro _ _ _ M res h; cases h
  | succ n ih =>
    intro x1 x2 x3 M res h u4
    refine run_at C A rfl hrtI (n := 400) ((eK_mayLeave_32 (mK_mayLeave_32 n) x1 x2 x3 M u4).trans h) ?_
    intro t als st M hk
    unfold KK_mayLeave_32 at hk
    split at hk
    · rename_i ht
      subst ht
      split at hk
      · split at hk
        · rename_i hc
          obtain ⟨rfl, rfl, rfl⟩ := hc
          exact ih _ _ _ _ _ hk _
        · cases hk
      · cases hk
    cases hk
def KK_mayLeave (j32 : Int32 → Int32 → Int32 → Mem → Option (Int32 × Mem)) : Jm (Int32 × Mem) := fun t als st M =>
  if t = 32 then (match als, st with
  | [.inr (.inr (.inl (al0, bl0, cl0))), .inl x1, .inl x2, .inl x3, _], [] => if al0 = 40 ∧ bl0 = 0 ∧ cl0 = 0 then j32 x1 x2 x3 M else none
  | _, _ => none) else
  none
set_option maxRecDepth 1000000 in
theorem eK_mayLeave (j32 : Int32 → Int32 → Int32 → Mem → Option (Int32 × Mem)) (x1 : Int32) (M : Mem) : run (cK_mayLeave) (KK_mayLeave j32) rtI 400 (seek (cK_mayLeave) 0) [aR (40, 0, 0), aI x1, aU, aU, aU] [] M = mK_mayLeaveb j32 x1 M := id rfl
theorem lK_mayLeave {E : EV} {l : Launch} {p : Program} {e : Env} {s : State} {m : MethodId} {args : Array Value} {below : List Frame} {meth : Method} {c : Code} (A : AllOK E l 4 "FreeLancesModel" prog_13_method_35_code 5 (some .boolean) outI (cK_mayLeave)) (C : Cx E p s m args meth c "FreeLancesModel" prog_13_method_35_code 5 (some .boolean)) : ∀ (x1 : Int32) (M : Mem) (res : (Int32 × Mem)), mK_mayLeave x1 M = some res → Wm E p l e 4 s m args below meth c 5 0 [aR (40, 0, 0), aI x1, aU, aU, aU] [] M (outI res).1 (outI res).2 := by
  intro x1 M res h
  refine run_at C A rfl hrtI (n := 400) ((eK_mayLeave (mK_mayLeave_32 fuel) x1 M).trans h) ?_
  intro t als st M hk
  unfold KK_mayLeave at hk
  split at hk
  · rename_i ht
    subst ht
    split at hk
    · split at hk
      · rename_i hc
        obtain ⟨rfl, rfl, rfl⟩ := hc
        exact lK_mayLeave_32 A C _ _ _ _ _ _ hk _
      · cases hk
    · cases hk
  cases hk
def dK_mayLeave {β : Type} : Den β := fun as M k => match as with
  | [.inr (.inr (.inl (al0, bl0, cl0))), .inl x1] => if al0 = 40 ∧ bl0 = 0 ∧ cl0 = 0 then (mK_mayLeave x1 M).bind fun q => k (aI q.1) q.2 else none
  | _ => none
theorem wK_mayLeave {E : EV} (hsd : E.2.2.2 = 1) (l : Launch) (x1 : Int32) (M : Mem) (q : (Int32 × Mem)) (hq : mK_mayLeave x1 M = some q) : Con E l 4 yK_mayLeave prog_13_method_35_code 5 (some .boolean) [aR (40, 0, 0), aI x1] M (outI q).1 (outI q).2 := by
  refine con_of iK_mayLeave (Nat.le_of_ble_eq_true rfl) ?_
  intro p e s m args below meth c C
  exact lK_mayLeave (oK_mayLeave hsd l) C x1 M _ hq
theorem kK_mayLeave {E : EV} (hsd : E.2.2.2 = 1) (l : Launch) {β : Type} : DenOK E l 4 yK_mayLeave prog_13_method_35_code 5 (some .boolean) true (dK_mayLeave (β := β)) := by
  intro as M k res h
  unfold dK_mayLeave at h
  split at h
  ·
    split at h
    · rename_i hc
      obtain ⟨rfl, rfl, rfl⟩ := hc
      obtain ⟨q, hq, hk⟩ := Option.bind_eq_some_iff.mp h
      exact ⟨aI q.1, q.2, hk, rfl, wK_mayLeave hsd l _ M q hq⟩
    · cases h
  · cases h
theorem qK_mayLeave {β : Type} : RecOK 40 (dK_mayLeave (β := β)) := by
  intro as M k res h
  unfold dK_mayLeave at h
  split at h
  ·
    split at h
    · rename_i hc
      obtain ⟨rfl, rfl, rfl⟩ := hc
      exact ⟨_, _, _, rfl⟩
    · cases h
  · cases h
/-! ===== FreeLancesModel.over(II)I ===== -/
abbrev yK_over : MethodName := ⟨"FreeLancesModel", "over", "(II)I"⟩
theorem iK_over : MI yK_over prog_13_method_36_code 4 (some .int) 2 := ⟨tw1441, tw108, ⟨by decide, by decide⟩, by decide +kernel, by decide, by decide⟩
def cK_over : List (Ent (Int32 × Mem)) := [(false, 0, 1, sLdA 0),
  (false, 1, 1, sLdI 1),
  (false, 2, 3, sInv 2 true dK_isLance),
  (false, 5, 3, sIfEq 26),
  (false, 8, 1, sLdA 0),
  (false, 9, 1, sLdI 2),
  (false, 10, 3, sInv 2 true dK_isCompany),
  (false, 13, 3, sIfEq 26),
  (false, 16, 1, sLdA 0),
  (false, 17, 1, sLdI 1),
  (false, 18, 1, sC 0),
  (false, 19, 3, sInv 3 true dK_its),
  (false, 22, 1, sLdI 2),
  (false, 23, 3, sCmpNe 32),
  (false, 26, 1, sLdA 0),
  (false, 27, 1, sC 1),
  (false, 28, 3, sInv 2 true dK_finds),
  (false, 31, 1, sRetI),
  (false, 32, 1, sLdA 0),
  (false, 33, 1, sLdI 1),
  (false, 34, 1, sC 0),
  (false, 35, 3, sInv 3 true dK_its),
  (false, 38, 1, sStI 3),
  (false, 39, 1, sLdA 0),
  (false, 40, 1, sLdI 1),
  (false, 41, 1, sC 3),
  (false, 42, 3, sInv 3 true dK_its),
  (false, 45, 1, sC 1),
  (false, 46, 3, sCmpGt 81),
  (false, 49, 1, sLdA 0),
  (false, 50, 1, sLdI 3),
  (false, 51, 3, sInv 2 true dK_mayLeave),
  (false, 54, 3, sIfEq 81),
  (false, 57, 1, sLdA 0),
  (false, 58, 1, sLdI 3),
  (false, 59, 1, sC 2),
  (false, 60, 3, sInv 3 true dK_own),
  (false, 63, 3, sIfLt 81),
  (false, 66, 1, sLdA 0),
  (false, 67, 1, sLdI 3),
  (false, 68, 1, sC 2),
  (false, 69, 3, sInv 3 true dK_own),
  (false, 72, 1, sLdA 0),
  (false, 73, 1, sLdI 2),
  (false, 74, 1, sC 2),
  (false, 75, 3, sInv 3 true dK_own),
  (false, 78, 3, sCmpEq 87),
  (false, 81, 1, sLdA 0),
  (false, 82, 1, sC 3),
  (false, 83, 3, sInv 2 true dK_finds),
  (false, 86, 1, sRetI),
  (false, 87, 1, sLdA 0),
  (false, 88, 3, sGet 40 (fun w i M => aR (41, 0, 0))),
  (false, 91, 3, sC 220),
  (false, 94, 1, sC 5),
  (false, 95, 1, sLdI 1),
  (false, 96, 1, sBin (fun x y => x * y)),
  (false, 97, 1, sBin (fun x y => x + y)),
  (false, 98, 1, sLdI 2),
  (false, 99, 1, sIast 41 1502),
  (false, 100, 1, sLdI 3),
  (false, 101, 1, sRetI)]
theorem oK_over {E : EV} (hsd : E.2.2.2 = 1) (l : Launch) : AllOK E l 5 "FreeLancesModel" prog_13_method_36_code 4 (some .int) outI (cK_over) := by
  refine ak (ok_aload_n (k := 0) rfl (by decide +kernel)) ?_
  refine ak (ok_iload_n (k := 1) rfl (by decide +kernel)) ?_
  refine ak (ok_invV (r := 40) (kK_isLance hsd l) qK_isLance ck11 kd40 iK_isLance tw1436 tw51 (by decide) tw1434 (by decide +kernel)) ?_
  refine ak (ok_if_eq (off := 21) (by decide) (by decide +kernel)) ?_
  refine ak (ok_aload_n (k := 0) rfl (by decide +kernel)) ?_
  refine ak (ok_iload_n (k := 2) rfl (by decide +kernel)) ?_
  refine ak (ok_invV (r := 40) (kK_isCompany hsd l) qK_isCompany ck11 kd40 iK_isCompany tw1392 tw44 (by decide) tw1390 (by decide +kernel)) ?_
  refine ak (ok_if_eq (off := 13) (by decide) (by decide +kernel)) ?_
  refine ak (ok_aload_n (k := 0) rfl (by decide +kernel)) ?_
  refine ak (ok_iload_n (k := 1) rfl (by decide +kernel)) ?_
  refine ak (ok_iconst (n := 0) (by decide) (by decide +kernel)) ?_
  refine ak (ok_invV (r := 40) (kK_its hsd l) qK_its ck11 kd40 iK_its tw1408 tw46 (by decide) tw1406 (by decide +kernel)) ?_
  refine ak (ok_iload_n (k := 2) rfl (by decide +kernel)) ?_
  refine ak (ok_icmp_ne (off := 9) (by decide) (by decide +kernel)) ?_
  refine ak (ok_aload_n (k := 0) rfl (by decide +kernel)) ?_
  refine ak (ok_iconst (n := 1) (by decide) (by decide +kernel)) ?_
  refine ak (ok_invV (r := 40) (kK_finds hsd l) qK_finds ck11 kd40 iK_finds tw1334 tw37 (by decide) tw1332 (by decide +kernel)) ?_
  refine ak (ok_ireturn rfl (by decide +kernel)) ?_
  refine ak (ok_aload_n (k := 0) rfl (by decide +kernel)) ?_
  refine ak (ok_iload_n (k := 1) rfl (by decide +kernel)) ?_
  refine ak (ok_iconst (n := 0) (by decide) (by decide +kernel)) ?_
  refine ak (ok_invV (r := 40) (kK_its hsd l) qK_its ck11 kd40 iK_its tw1408 tw46 (by decide) tw1406 (by decide +kernel)) ?_
  refine ak (ok_istore_n (k := 3) rfl (by decide) (by decide +kernel)) ?_
  refine ak (ok_aload_n (k := 0) rfl (by decide +kernel)) ?_
  refine ak (ok_iload_n (k := 1) rfl (by decide +kernel)) ?_
  refine ak (ok_iconst (n := 3) (by decide) (by decide +kernel)) ?_
  refine ak (ok_invV (r := 40) (kK_its hsd l) qK_its ck11 kd40 iK_its tw1408 tw46 (by decide) tw1406 (by decide +kernel)) ?_
  refine ak (ok_iconst (n := 1) (by decide) (by decide +kernel)) ?_
  refine ak (ok_icmp_gt (off := 35) (by decide) (by decide +kernel)) ?_
  refine ak (ok_aload_n (k := 0) rfl (by decide +kernel)) ?_
  refine ak (ok_iload_n (k := 3) rfl (by decide +kernel)) ?_
  refine ak (ok_invV (r := 40) (kK_mayLeave hsd l) qK_mayLeave ck11 kd40 iK_mayLeave tw1444 tw52 (by decide) tw1442 (by decide +kernel)) ?_
  refine ak (ok_if_eq (off := 27) (by decide) (by decide +kernel)) ?_
  refine ak (ok_aload_n (k := 0) rfl (by decide +kernel)) ?_
  refine ak (ok_iload_n (k := 3) rfl (by decide +kernel)) ?_
  refine ak (ok_iconst (n := 2) (by decide) (by decide +kernel)) ?_
  refine ak (ok_invV (r := 40) (kK_own hsd l) qK_own ck11 kd40 iK_own tw1363 tw41 (by decide) tw1361 (by decide +kernel)) ?_
  refine ak (ok_if_lt (off := 18) (by decide) (by decide +kernel)) ?_
  refine ak (ok_aload_n (k := 0) rfl (by decide +kernel)) ?_
  refine ak (ok_iload_n (k := 3) rfl (by decide +kernel)) ?_
  refine ak (ok_iconst (n := 2) (by decide) (by decide +kernel)) ?_
  refine ak (ok_invV (r := 40) (kK_own hsd l) qK_own ck11 kd40 iK_own tw1363 tw41 (by decide) tw1361 (by decide +kernel)) ?_
  refine ak (ok_aload_n (k := 0) rfl (by decide +kernel)) ?_
  refine ak (ok_iload_n (k := 2) rfl (by decide +kernel)) ?_
  refine ak (ok_iconst (n := 2) (by decide) (by decide +kernel)) ?_
  refine ak (ok_invV (r := 40) (kK_own hsd l) qK_own ck11 kd40 iK_own tw1363 tw41 (by decide) tw1361 (by decide +kernel)) ?_
  refine ak (ok_icmp_eq (off := 9) (by decide) (by decide +kernel)) ?_
  refine ak (ok_aload_n (k := 0) rfl (by decide +kernel)) ?_
  refine ak (ok_iconst (n := 3) (by decide) (by decide +kernel)) ?_
  refine ak (ok_invV (r := 40) (kK_finds hsd l) qK_finds ck11 kd40 iK_finds tw1334 tw37 (by decide) tw1332 (by decide +kernel)) ?_
  refine ak (ok_ireturn rfl (by decide +kernel)) ?_
  refine ak (ok_aload_n (k := 0) rfl (by decide +kernel)) ?_
  refine ak (ok_get (k := 0) ck11 kd40 (by decide) (fun _ _ _ => rfl) (vf_40_0 hsd) tw1242 (by decide +kernel)) ?_
  refine ak (ok_sipush (n := 220) (by decide) (by decide +kernel)) ?_
  refine ak (ok_iconst (n := 5) (by decide) (by decide +kernel)) ?_
  refine ak (ok_iload_n (k := 1) rfl (by decide +kernel)) ?_
  refine ak (ok_imul (by decide +kernel)) ?_
  refine ak (ok_iadd (by decide +kernel)) ?_
  refine ak (ok_iload_n (k := 2) rfl (by decide +kernel)) ?_
  refine ak (ok_iast kd41 (by decide) (by decide) (by decide +kernel)) ?_
  refine ak (ok_iload_n (k := 3) rfl (by decide +kernel)) ?_
  refine ak (ok_ireturn rfl (by decide +kernel)) ?_
  exact trivial
set_option maxRecDepth 1000000 in
theorem eK_over (x1 : Int32) (x2 : Int32) (M : Mem) : run (cK_over) (fun _ _ _ _ => none) rtI 400 (seek (cK_over) 0) [aR (40, 0, 0), aI x1, aI x2, aU] [] M = mK_over x1 x2 M := id rfl
theorem lK_over {E : EV} {l : Launch} {p : Program} {e : Env} {s : State} {m : MethodId} {args : Array Value} {below : List Frame} {meth : Method} {c : Code} (A : AllOK E l 5 "FreeLancesModel" prog_13_method_36_code 4 (some .int) outI (cK_over)) (C : Cx E p s m args meth c "FreeLancesModel" prog_13_method_36_code 4 (some .int)) : ∀ (x1 : Int32) (x2 : Int32) (M : Mem) (res : (Int32 × Mem)), mK_over x1 x2 M = some res → Wm E p l e 5 s m args below meth c 4 0 [aR (40, 0, 0), aI x1, aI x2, aU] [] M (outI res).1 (outI res).2 := by
  intro x1 x2 M res h
  refine run_at C A rfl hrtI (n := 400) ((eK_over x1 x2 M).trans h) ?_
  intro t als st M hk; cases hk
def dK_over {β : Type} : Den β := fun as M k => match as with
  | [.inr (.inr (.inl (al0, bl0, cl0))), .inl x1, .inl x2] => if al0 = 40 ∧ bl0 = 0 ∧ cl0 = 0 then (mK_over x1 x2 M).bind fun q => k (aI q.1) q.2 else none
  | _ => none
theorem wK_over {E : EV} (hsd : E.2.2.2 = 1) (l : Launch) (x1 : Int32) (x2 : Int32) (M : Mem) (q : (Int32 × Mem)) (hq : mK_over x1 x2 M = some q) : Con E l 5 yK_over prog_13_method_36_code 4 (some .int) [aR (40, 0, 0), aI x1, aI x2] M (outI q).1 (outI q).2 := by
  refine con_of iK_over (Nat.le_of_ble_eq_true rfl) ?_
  intro p e s m args below meth c C
  exact lK_over (oK_over hsd l) C x1 x2 M _ hq
theorem kK_over {E : EV} (hsd : E.2.2.2 = 1) (l : Launch) {β : Type} : DenOK E l 5 yK_over prog_13_method_36_code 4 (some .int) true (dK_over (β := β)) := by
  intro as M k res h
  unfold dK_over at h
  split at h
  ·
    split at h
    · rename_i hc
      obtain ⟨rfl, rfl, rfl⟩ := hc
      obtain ⟨q, hq, hk⟩ := Option.bind_eq_some_iff.mp h
      exact ⟨aI q.1, q.2, hk, rfl, wK_over hsd l _ _ M q hq⟩
    · cases h
  · cases h
theorem qK_over {β : Type} : RecOK 40 (dK_over (β := β)) := by
  intro as M k res h
  unfold dK_over at h
  split at h
  ·
    split at h
    · rename_i hc
      obtain ⟨rfl, rfl, rfl⟩ := hc
      exact ⟨_, _, _, rfl⟩
    · cases h
  · cases h
/-! ===== FreeLancesModel.turns(II)V ===== -/
abbrev yK_turns : MethodName := ⟨"FreeLancesModel", "turns", "(II)V"⟩
theorem iK_turns : MI yK_turns prog_13_method_15_code 3 none 2 := ⟨tw1464, tw108, ⟨by decide, by decide⟩, by decide +kernel, by decide, by decide⟩
def cK_turns : List (Ent Mem) := [(false, 0, 1, sLdA 0),
  (false, 1, 3, sGet 40 (fun w i M => aR (41, 0, 0))),
  (false, 4, 3, sC 220),
  (false, 7, 1, sC 5),
  (false, 8, 1, sLdI 1),
  (false, 9, 1, sBin (fun x y => x * y)),
  (false, 10, 1, sBin (fun x y => x + y)),
  (false, 11, 1, sC 3),
  (false, 12, 1, sBin (fun x y => x + y)),
  (false, 13, 1, sLdI 2),
  (false, 14, 1, sIast 41 1502),
  (false, 15, 1, sRetV)]
theorem oK_turns {E : EV} (hsd : E.2.2.2 = 1) (l : Launch) : AllOK E l 1 "FreeLancesModel" prog_13_method_15_code 3 none outV (cK_turns) := by
  refine ak (ok_aload_n (k := 0) rfl (by decide +kernel)) ?_
  refine ak (ok_get (k := 0) ck11 kd40 (by decide) (fun _ _ _ => rfl) (vf_40_0 hsd) tw1242 (by decide +kernel)) ?_
  refine ak (ok_sipush (n := 220) (by decide) (by decide +kernel)) ?_
  refine ak (ok_iconst (n := 5) (by decide) (by decide +kernel)) ?_
  refine ak (ok_iload_n (k := 1) rfl (by decide +kernel)) ?_
  refine ak (ok_imul (by decide +kernel)) ?_
  refine ak (ok_iadd (by decide +kernel)) ?_
  refine ak (ok_iconst (n := 3) (by decide) (by decide +kernel)) ?_
  refine ak (ok_iadd (by decide +kernel)) ?_
  refine ak (ok_iload_n (k := 2) rfl (by decide +kernel)) ?_
  refine ak (ok_iast kd41 (by decide) (by decide) (by decide +kernel)) ?_
  refine ak (ok_return rfl (by decide +kernel)) ?_
  exact trivial
set_option maxRecDepth 1000000 in
theorem eK_turns (x1 : Int32) (x2 : Int32) (M : Mem) : run (cK_turns) (fun _ _ _ _ => none) rtV 400 (seek (cK_turns) 0) [aR (40, 0, 0), aI x1, aI x2] [] M = mK_turns x1 x2 M := id rfl
theorem lK_turns {E : EV} {l : Launch} {p : Program} {e : Env} {s : State} {m : MethodId} {args : Array Value} {below : List Frame} {meth : Method} {c : Code} (A : AllOK E l 1 "FreeLancesModel" prog_13_method_15_code 3 none outV (cK_turns)) (C : Cx E p s m args meth c "FreeLancesModel" prog_13_method_15_code 3 none) : ∀ (x1 : Int32) (x2 : Int32) (M : Mem) (res : Mem), mK_turns x1 x2 M = some res → Wm E p l e 1 s m args below meth c 3 0 [aR (40, 0, 0), aI x1, aI x2] [] M (outV res).1 (outV res).2 := by
  intro x1 x2 M res h
  refine run_at C A rfl hrtV (n := 400) ((eK_turns x1 x2 M).trans h) ?_
  intro t als st M hk; cases hk
def dK_turns {β : Type} : Den β := fun as M k => match as with
  | [.inr (.inr (.inl (al0, bl0, cl0))), .inl x1, .inl x2] => if al0 = 40 ∧ bl0 = 0 ∧ cl0 = 0 then (mK_turns x1 x2 M).bind fun q => k aU q else none
  | _ => none
theorem wK_turns {E : EV} (hsd : E.2.2.2 = 1) (l : Launch) (x1 : Int32) (x2 : Int32) (M : Mem) (q : Mem) (hq : mK_turns x1 x2 M = some q) : Con E l 1 yK_turns prog_13_method_15_code 3 none [aR (40, 0, 0), aI x1, aI x2] M (outV q).1 (outV q).2 := by
  refine con_of iK_turns (Nat.le_of_ble_eq_true rfl) ?_
  intro p e s m args below meth c C
  exact lK_turns (oK_turns hsd l) C x1 x2 M _ hq
theorem kK_turns {E : EV} (hsd : E.2.2.2 = 1) (l : Launch) {β : Type} : DenOK E l 1 yK_turns prog_13_method_15_code 3 none false (dK_turns (β := β)) := by
  intro as M k res h
  unfold dK_turns at h
  split at h
  ·
    split at h
    · rename_i hc
      obtain ⟨rfl, rfl, rfl⟩ := hc
      obtain ⟨q, hq, hk⟩ := Option.bind_eq_some_iff.mp h
      exact ⟨aU, q, hk, rfl, wK_turns hsd l _ _ M q hq⟩
    · cases h
  · cases h
theorem qK_turns {β : Type} : RecOK 40 (dK_turns (β := β)) := by
  intro as M k res h
  unfold dK_turns at h
  split at h
  ·
    split at h
    · rename_i hc
      obtain ⟨rfl, rfl, rfl⟩ := hc
      exact ⟨_, _, _, rfl⟩
    · cases h
  · cases h
/-! ===== FreeLancesModel.take(II)I ===== -/
abbrev yK_take : MethodName := ⟨"FreeLancesModel", "take", "(II)I"⟩
theorem iK_take : MI yK_take prog_13_method_37_code 3 (some .int) 2 := ⟨tw1460, tw108, ⟨by decide, by decide⟩, by decide +kernel, by decide, by decide⟩
def cK_take : List (Ent (Int32 × Mem)) := [(false, 0, 1, sLdA 0),
  (false, 1, 1, sLdI 1),
  (false, 2, 3, sInv 2 true dK_isTown),
  (false, 5, 3, sIfEq 16),
  (false, 8, 1, sLdA 0),
  (false, 9, 1, sLdI 2),
  (false, 10, 3, sInv 2 true dK_isLance),
  (false, 13, 3, sIfNe 22),
  (false, 16, 1, sLdA 0),
  (false, 17, 1, sC 1),
  (false, 18, 3, sInv 2 true dK_finds),
  (false, 21, 1, sRetI),
  (false, 22, 1, sLdA 0),
  (false, 23, 1, sLdI 2),
  (false, 24, 1, sC 3),
  (false, 25, 3, sInv 3 true dK_its),
  (false, 28, 1, sC 1),
  (false, 29, 3, sCmpGt 47),
  (false, 32, 1, sLdA 0),
  (false, 33, 1, sLdA 0),
  (false, 34, 1, sLdI 2),
  (false, 35, 1, sC 0),
  (false, 36, 3, sInv 3 true dK_its),
  (false, 39, 1, sC 2),
  (false, 40, 3, sInv 3 true dK_own),
  (false, 43, 1, sLdI 1),
  (false, 44, 3, sCmpNe 53),
  (false, 47, 1, sLdA 0),
  (false, 48, 1, sC 3),
  (false, 49, 3, sInv 2 true dK_finds),
  (false, 52, 1, sRetI),
  (false, 53, 1, sLdA 0),
  (false, 54, 1, sLdI 2),
  (false, 55, 1, sC 2),
  (false, 56, 3, sInv 3 false dK_turns),
  (false, 59, 1, sLdA 0),
  (false, 60, 3, sGet 40 (fun w i M => aR (41, 0, 0))),
  (false, 63, 3, sC 220),
  (false, 66, 1, sC 5),
  (false, 67, 1, sLdI 2),
  (false, 68, 1, sBin (fun x y => x * y)),
  (false, 69, 1, sBin (fun x y => x + y)),
  (false, 70, 1, sC 4),
  (false, 71, 1, sBin (fun x y => x + y)),
  (false, 72, 1, sLdI 1),
  (false, 73, 1, sIast 41 1502),
  (false, 74, 1, sC 1),
  (false, 75, 1, sRetI)]
theorem oK_take {E : EV} (hsd : E.2.2.2 = 1) (l : Launch) : AllOK E l 3 "FreeLancesModel" prog_13_method_37_code 3 (some .int) outI (cK_take) := by
  refine ak (ok_aload_n (k := 0) rfl (by decide +kernel)) ?_
  refine ak (ok_iload_n (k := 1) rfl (by decide +kernel)) ?_
  refine ak (ok_invV (r := 40) (kK_isTown hsd l) qK_isTown ck11 kd40 iK_isTown tw1343 tw38 (by decide) tw1341 (by decide +kernel)) ?_
  refine ak (ok_if_eq (off := 11) (by decide) (by decide +kernel)) ?_
  refine ak (ok_aload_n (k := 0) rfl (by decide +kernel)) ?_
  refine ak (ok_iload_n (k := 2) rfl (by decide +kernel)) ?_
  refine ak (ok_invV (r := 40) (kK_isLance hsd l) qK_isLance ck11 kd40 iK_isLance tw1436 tw51 (by decide) tw1434 (by decide +kernel)) ?_
  refine ak (ok_if_ne (off := 9) (by decide) (by decide +kernel)) ?_
  refine ak (ok_aload_n (k := 0) rfl (by decide +kernel)) ?_
  refine ak (ok_iconst (n := 1) (by decide) (by decide +kernel)) ?_
  refine ak (ok_invV (r := 40) (kK_finds hsd l) qK_finds ck11 kd40 iK_finds tw1334 tw37 (by decide) tw1332 (by decide +kernel)) ?_
  refine ak (ok_ireturn rfl (by decide +kernel)) ?_
  refine ak (ok_aload_n (k := 0) rfl (by decide +kernel)) ?_
  refine ak (ok_iload_n (k := 2) rfl (by decide +kernel)) ?_
  refine ak (ok_iconst (n := 3) (by decide) (by decide +kernel)) ?_
  refine ak (ok_invV (r := 40) (kK_its hsd l) qK_its ck11 kd40 iK_its tw1408 tw46 (by decide) tw1406 (by decide +kernel)) ?_
  refine ak (ok_iconst (n := 1) (by decide) (by decide +kernel)) ?_
  refine ak (ok_icmp_gt (off := 18) (by decide) (by decide +kernel)) ?_
  refine ak (ok_aload_n (k := 0) rfl (by decide +kernel)) ?_
  refine ak (ok_aload_n (k := 0) rfl (by decide +kernel)) ?_
  refine ak (ok_iload_n (k := 2) rfl (by decide +kernel)) ?_
  refine ak (ok_iconst (n := 0) (by decide) (by decide +kernel)) ?_
  refine ak (ok_invV (r := 40) (kK_its hsd l) qK_its ck11 kd40 iK_its tw1408 tw46 (by decide) tw1406 (by decide +kernel)) ?_
  refine ak (ok_iconst (n := 2) (by decide) (by decide +kernel)) ?_
  refine ak (ok_invV (r := 40) (kK_own hsd l) qK_own ck11 kd40 iK_own tw1363 tw41 (by decide) tw1361 (by decide +kernel)) ?_
  refine ak (ok_iload_n (k := 1) rfl (by decide +kernel)) ?_
  refine ak (ok_icmp_ne (off := 9) (by decide) (by decide +kernel)) ?_
  refine ak (ok_aload_n (k := 0) rfl (by decide +kernel)) ?_
  refine ak (ok_iconst (n := 3) (by decide) (by decide +kernel)) ?_
  refine ak (ok_invV (r := 40) (kK_finds hsd l) qK_finds ck11 kd40 iK_finds tw1334 tw37 (by decide) tw1332 (by decide +kernel)) ?_
  refine ak (ok_ireturn rfl (by decide +kernel)) ?_
  refine ak (ok_aload_n (k := 0) rfl (by decide +kernel)) ?_
  refine ak (ok_iload_n (k := 2) rfl (by decide +kernel)) ?_
  refine ak (ok_iconst (n := 2) (by decide) (by decide +kernel)) ?_
  refine ak (ok_invV (r := 40) (kK_turns hsd l) qK_turns ck11 kd40 iK_turns tw1463 tw55 (by decide) tw1461 (by decide +kernel)) ?_
  refine ak (ok_aload_n (k := 0) rfl (by decide +kernel)) ?_
  refine ak (ok_get (k := 0) ck11 kd40 (by decide) (fun _ _ _ => rfl) (vf_40_0 hsd) tw1242 (by decide +kernel)) ?_
  refine ak (ok_sipush (n := 220) (by decide) (by decide +kernel)) ?_
  refine ak (ok_iconst (n := 5) (by decide) (by decide +kernel)) ?_
  refine ak (ok_iload_n (k := 2) rfl (by decide +kernel)) ?_
  refine ak (ok_imul (by decide +kernel)) ?_
  refine ak (ok_iadd (by decide +kernel)) ?_
  refine ak (ok_iconst (n := 4) (by decide) (by decide +kernel)) ?_
  refine ak (ok_iadd (by decide +kernel)) ?_
  refine ak (ok_iload_n (k := 1) rfl (by decide +kernel)) ?_
  refine ak (ok_iast kd41 (by decide) (by decide) (by decide +kernel)) ?_
  refine ak (ok_iconst (n := 1) (by decide) (by decide +kernel)) ?_
  refine ak (ok_ireturn rfl (by decide +kernel)) ?_
  exact trivial
set_option maxRecDepth 1000000 in
theorem eK_take (x1 : Int32) (x2 : Int32) (M : Mem) : run (cK_take) (fun _ _ _ _ => none) rtI 400 (seek (cK_take) 0) [aR (40, 0, 0), aI x1, aI x2] [] M = mK_take x1 x2 M := id rfl
theorem lK_take {E : EV} {l : Launch} {p : Program} {e : Env} {s : State} {m : MethodId} {args : Array Value} {below : List Frame} {meth : Method} {c : Code} (A : AllOK E l 3 "FreeLancesModel" prog_13_method_37_code 3 (some .int) outI (cK_take)) (C : Cx E p s m args meth c "FreeLancesModel" prog_13_method_37_code 3 (some .int)) : ∀ (x1 : Int32) (x2 : Int32) (M : Mem) (res : (Int32 × Mem)), mK_take x1 x2 M = some res → Wm E p l e 3 s m args below meth c 3 0 [aR (40, 0, 0), aI x1, aI x2] [] M (outI res).1 (outI res).2 := by
  intro x1 x2 M res h
  refine run_at C A rfl hrtI (n := 400) ((eK_take x1 x2 M).trans h) ?_
  intro t als st M hk; cases hk
def dK_take {β : Type} : Den β := fun as M k => match as with
  | [.inr (.inr (.inl (al0, bl0, cl0))), .inl x1, .inl x2] => if al0 = 40 ∧ bl0 = 0 ∧ cl0 = 0 then (mK_take x1 x2 M).bind fun q => k (aI q.1) q.2 else none
  | _ => none
theorem wK_take {E : EV} (hsd : E.2.2.2 = 1) (l : Launch) (x1 : Int32) (x2 : Int32) (M : Mem) (q : (Int32 × Mem)) (hq : mK_take x1 x2 M = some q) : Con E l 3 yK_take prog_13_method_37_code 3 (some .int) [aR (40, 0, 0), aI x1, aI x2] M (outI q).1 (outI q).2 := by
  refine con_of iK_take (Nat.le_of_ble_eq_true rfl) ?_
  intro p e s m args below meth c C
  exact lK_take (oK_take hsd l) C x1 x2 M _ hq
theorem kK_take {E : EV} (hsd : E.2.2.2 = 1) (l : Launch) {β : Type} : DenOK E l 3 yK_take prog_13_method_37_code 3 (some .int) true (dK_take (β := β)) := by
  intro as M k res h
  unfold dK_take at h
  split at h
  ·
    split at h
    · rename_i hc
      obtain ⟨rfl, rfl, rfl⟩ := hc
      obtain ⟨q, hq, hk⟩ := Option.bind_eq_some_iff.mp h
      exact ⟨aI q.1, q.2, hk, rfl, wK_take hsd l _ _ M q hq⟩
    · cases h
  · cases h
theorem qK_take {β : Type} : RecOK 40 (dK_take (β := β)) := by
  intro as M k res h
  unfold dK_take at h
  split at h
  ·
    split at h
    · rename_i hc
      obtain ⟨rfl, rfl, rfl⟩ := hc
      exact ⟨_, _, _, rfl⟩
    · cases h
  · cases h
