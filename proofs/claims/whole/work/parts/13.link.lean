/-! ===== FreeLances.within(III)Z ===== -/
abbrev yF_within : MethodName := ⟨"FreeLances", "within", "(III)Z"⟩
theorem iF_within : MI yF_within prog_1_method_57_code 3 (some .boolean) 3 := ⟨tw554, tw97, ⟨by decide, by decide⟩, by decide +kernel, by decide, by decide⟩
def cF_within : List (Ent (Int32 × Mem)) := [(false, 0, 1, sLdI 1),
  (false, 1, 1, sLdI 0),
  (false, 2, 3, sCmpGt 14),
  (false, 5, 1, sLdI 0),
  (false, 6, 1, sLdI 2),
  (false, 7, 3, sCmpGt 14),
  (false, 10, 1, sC 1),
  (false, 11, 3, sGoto 15),
  (false, 14, 1, sC 0),
  (false, 15, 1, sRetZ)]
theorem oF_within {E : EV} (hsd : E.2.2.2 = 0) (l : Launch) : AllOK E l 1 "FreeLances" prog_1_method_57_code 3 (some .boolean) outI (cF_within) := by
  refine ak (ok_iload_n (k := 1) rfl (by decide +kernel)) ?_
  refine ak (ok_iload_n (k := 0) rfl (by decide +kernel)) ?_
  refine ak (ok_icmp_gt (off := 12) (by decide) (by decide +kernel)) ?_
  refine ak (ok_iload_n (k := 0) rfl (by decide +kernel)) ?_
  refine ak (ok_iload_n (k := 2) rfl (by decide +kernel)) ?_
  refine ak (ok_icmp_gt (off := 7) (by decide) (by decide +kernel)) ?_
  refine ak (ok_iconst (n := 1) (by decide) (by decide +kernel)) ?_
  refine ak (ok_goto (off := 4) (by decide) (by decide +kernel)) ?_
  refine ak (ok_iconst (n := 0) (by decide) (by decide +kernel)) ?_
  refine ak (ok_zreturn rfl (by decide +kernel)) ?_
  exact trivial
set_option maxRecDepth 1000000 in
theorem eF_within (x0 : Int32) (x1 : Int32) (x2 : Int32) (M : Mem) : run (cF_within) (fun _ _ _ _ => none) rtI 400 (seek (cF_within) 0) [aI x0, aI x1, aI x2] [] M = mF_within x0 x1 x2 M := id rfl
theorem lF_within {E : EV} {l : Launch} {p : Program} {e : Env} {s : State} {m : MethodId} {args : Array Value} {below : List Frame} {meth : Method} {c : Code} (A : AllOK E l 1 "FreeLances" prog_1_method_57_code 3 (some .boolean) outI (cF_within)) (C : Cx E p s m args meth c "FreeLances" prog_1_method_57_code 3 (some .boolean)) : ∀ (x0 : Int32) (x1 : Int32) (x2 : Int32) (M : Mem) (res : (Int32 × Mem)), mF_within x0 x1 x2 M = some res → Wm E p l e 1 s m args below meth c 3 0 [aI x0, aI x1, aI x2] [] M (outI res).1 (outI res).2 := by
  intro x0 x1 x2 M res h
  refine run_at C A rfl hrtI (n := 400) ((eF_within x0 x1 x2 M).trans h) ?_
  intro t als st M hk; cases hk
def dF_within {β : Type} : Den β := fun as M k => match as with
  | [.inl x0, .inl x1, .inl x2] => (mF_within x0 x1 x2 M).bind fun q => k (aI q.1) q.2
  | _ => none
theorem wF_within {E : EV} (hsd : E.2.2.2 = 0) (l : Launch) (x0 : Int32) (x1 : Int32) (x2 : Int32) (M : Mem) (q : (Int32 × Mem)) (hq : mF_within x0 x1 x2 M = some q) : Con E l 1 yF_within prog_1_method_57_code 3 (some .boolean) [aI x0, aI x1, aI x2] M (outI q).1 (outI q).2 := by
  refine con_of iF_within (Nat.le_of_ble_eq_true rfl) ?_
  intro p e s m args below meth c C
  exact lF_within (oF_within hsd l) C x0 x1 x2 M _ hq
theorem kF_within {E : EV} (hsd : E.2.2.2 = 0) (l : Launch) {β : Type} : DenOK E l 1 yF_within prog_1_method_57_code 3 (some .boolean) true (dF_within (β := β)) := by
  intro as M k res h
  unfold dF_within at h
  split at h
  · obtain ⟨q, hq, hk⟩ := Option.bind_eq_some_iff.mp h
    exact ⟨aI q.1, q.2, hk, rfl, wF_within hsd l _ _ _ M q hq⟩
  · cases h
/-! ===== FreeLances.finding(I)I ===== -/
abbrev yF_finding : MethodName := ⟨"FreeLances", "finding", "(I)I"⟩
theorem iF_finding : MI yF_finding prog_1_method_56_code 2 (some .int) 1 := ⟨tw558, tw97, ⟨by decide, by decide⟩, by decide +kernel, by decide, by decide⟩
def cF_finding : List (Ent (Int32 × Mem)) := [(false, 0, 1, sLdA 0),
  (false, 1, 3, sGet 0 (fun w i M => aR (26, 0, 0))),
  (false, 4, 1, sLdI 1),
  (false, 5, 1, sDup2),
  (false, 6, 1, sIald 26 6),
  (false, 7, 1, sC 1),
  (false, 8, 1, sBin (fun x y => x + y)),
  (false, 9, 1, sIast 26 6),
  (false, 10, 3, sC (-1000000)),
  (false, 13, 1, sLdI 1),
  (false, 14, 1, sBin (fun x y => x - y)),
  (false, 15, 1, sRetI)]
theorem oF_finding {E : EV} (hsd : E.2.2.2 = 0) (l : Launch) : AllOK E l 1 "FreeLances" prog_1_method_56_code 2 (some .int) outI (cF_finding) := by
  refine ak (ok_aload_n (k := 0) rfl (by decide +kernel)) ?_
  refine ak (ok_get (k := 6) ck10 kd0 (by decide) (fun _ _ _ => rfl) (vf_0_6 hsd) tw528 (by decide +kernel)) ?_
  refine ak (ok_iload_n (k := 1) rfl (by decide +kernel)) ?_
  refine ak (ok_dup2 (by decide +kernel)) ?_
  refine ak (ok_iald kd26 (by decide) (by decide +kernel)) ?_
  refine ak (ok_iconst (n := 1) (by decide) (by decide +kernel)) ?_
  refine ak (ok_iadd (by decide +kernel)) ?_
  refine ak (ok_iast kd26 (by decide) (by decide) (by decide +kernel)) ?_
  refine ak (ok_ldcw tw559 (by decide +kernel)) ?_
  refine ak (ok_iload_n (k := 1) rfl (by decide +kernel)) ?_
  refine ak (ok_isub (by decide +kernel)) ?_
  refine ak (ok_ireturn rfl (by decide +kernel)) ?_
  exact trivial
set_option maxRecDepth 1000000 in
theorem eF_finding (x1 : Int32) (M : Mem) : run (cF_finding) (fun _ _ _ _ => none) rtI 400 (seek (cF_finding) 0) [aR (0, 0, 0), aI x1] [] M = mF_finding x1 M := id rfl
theorem lF_finding {E : EV} {l : Launch} {p : Program} {e : Env} {s : State} {m : MethodId} {args : Array Value} {below : List Frame} {meth : Method} {c : Code} (A : AllOK E l 1 "FreeLances" prog_1_method_56_code 2 (some .int) outI (cF_finding)) (C : Cx E p s m args meth c "FreeLances" prog_1_method_56_code 2 (some .int)) : ∀ (x1 : Int32) (M : Mem) (res : (Int32 × Mem)), mF_finding x1 M = some res → Wm E p l e 1 s m args below meth c 2 0 [aR (0, 0, 0), aI x1] [] M (outI res).1 (outI res).2 := by
  intro x1 M res h
  refine run_at C A rfl hrtI (n := 400) ((eF_finding x1 M).trans h) ?_
  intro t als st M hk; cases hk
def dF_finding {β : Type} : Den β := fun as M k => match as with
  | [.inr (.inr (.inl (al0, bl0, cl0))), .inl x1] => if al0 = 0 ∧ bl0 = 0 ∧ cl0 = 0 then (mF_finding x1 M).bind fun q => k (aI q.1) q.2 else none
  | _ => none
theorem wF_finding {E : EV} (hsd : E.2.2.2 = 0) (l : Launch) (x1 : Int32) (M : Mem) (q : (Int32 × Mem)) (hq : mF_finding x1 M = some q) : Con E l 1 yF_finding prog_1_method_56_code 2 (some .int) [aR (0, 0, 0), aI x1] M (outI q).1 (outI q).2 := by
  refine con_of iF_finding (Nat.le_of_ble_eq_true rfl) ?_
  intro p e s m args below meth c C
  exact lF_finding (oF_finding hsd l) C x1 M _ hq
theorem kF_finding {E : EV} (hsd : E.2.2.2 = 0) (l : Launch) {β : Type} : DenOK E l 1 yF_finding prog_1_method_56_code 2 (some .int) true (dF_finding (β := β)) := by
  intro as M k res h
  unfold dF_finding at h
  split at h
  ·
    split at h
    · rename_i hc
      obtain ⟨rfl, rfl, rfl⟩ := hc
      obtain ⟨q, hq, hk⟩ := Option.bind_eq_some_iff.mp h
      exact ⟨aI q.1, q.2, hk, rfl, wF_finding hsd l _ M q hq⟩
    · cases h
  · cases h
theorem qF_finding {β : Type} : RecOK 0 (dF_finding (β := β)) := by
  intro as M k res h
  unfold dF_finding at h
  split at h
  ·
    split at h
    · rename_i hc
      obtain ⟨rfl, rfl, rfl⟩ := hc
      exact ⟨_, _, _, rfl⟩
    · cases h
  · cases h
/-! ===== FreeLances$Town.begin(II)V ===== -/
abbrev yT_begin : MethodName := ⟨"FreeLances$Town", "begin", "(II)V"⟩
theorem iT_begin : MI yT_begin prog_9_method_2_code 3 none 2 := ⟨tw563, tw100, ⟨by decide, by decide⟩, by decide +kernel, by decide, by decide⟩
def cT_begin : List (Ent Mem) := [(false, 0, 1, sLdA 0),
  (false, 1, 1, sLdI 1),
  (false, 2, 3, sPut 3 0),
  (false, 5, 1, sLdA 0),
  (false, 6, 1, sLdI 2),
  (false, 7, 3, sPut 3 1),
  (false, 10, 1, sLdA 0),
  (false, 11, 2, sC 100),
  (false, 13, 3, sPut 3 2),
  (false, 16, 1, sLdA 0),
  (false, 17, 1, sC 0),
  (false, 18, 3, sPut 3 3),
  (false, 21, 1, sRetV)]
theorem oT_begin {E : EV} (hsd : E.2.2.2 = 0) (l : Launch) : AllOK E l 1 "FreeLances$Town" prog_9_method_2_code 3 none outV (cT_begin) := by
  refine ak (ok_aload_n (k := 0) rfl (by decide +kernel)) ?_
  refine ak (ok_iload_n (k := 1) rfl (by decide +kernel)) ?_
  refine ak (ok_put (k := 0) ck7 kd3 (by decide) (fun _ _ _ => rfl) rfl rfl (by decide) tw174 (by decide +kernel)) ?_
  refine ak (ok_aload_n (k := 0) rfl (by decide +kernel)) ?_
  refine ak (ok_iload_n (k := 2) rfl (by decide +kernel)) ?_
  refine ak (ok_put (k := 1) ck7 kd3 (by decide) (fun _ _ _ => rfl) rfl rfl (by decide) tw177 (by decide +kernel)) ?_
  refine ak (ok_aload_n (k := 0) rfl (by decide +kernel)) ?_
  refine ak (ok_bipush (n := 100) (by decide) (by decide +kernel)) ?_
  refine ak (ok_put (k := 2) ck7 kd3 (by decide) (fun _ _ _ => rfl) rfl rfl (by decide) tw180 (by decide +kernel)) ?_
  refine ak (ok_aload_n (k := 0) rfl (by decide +kernel)) ?_
  refine ak (ok_iconst (n := 0) (by decide) (by decide +kernel)) ?_
  refine ak (ok_put (k := 3) ck7 kd3 (by decide) (fun _ _ _ => rfl) rfl rfl (by decide) tw182 (by decide +kernel)) ?_
  refine ak (ok_return rfl (by decide +kernel)) ?_
  exact trivial
set_option maxRecDepth 1000000 in
theorem eT_begin (w0 : Nat) (i0 : Nat) (x1 : Int32) (x2 : Int32) (M : Mem) : run (cT_begin) (fun _ _ _ _ => none) rtV 400 (seek (cT_begin) 0) [aR (3, w0, i0), aI x1, aI x2] [] M = mT_begin w0 i0 x1 x2 M := id rfl
theorem lT_begin {E : EV} {l : Launch} {p : Program} {e : Env} {s : State} {m : MethodId} {args : Array Value} {below : List Frame} {meth : Method} {c : Code} (A : AllOK E l 1 "FreeLances$Town" prog_9_method_2_code 3 none outV (cT_begin)) (C : Cx E p s m args meth c "FreeLances$Town" prog_9_method_2_code 3 none) : ∀ (w0 : Nat) (i0 : Nat) (x1 : Int32) (x2 : Int32) (M : Mem) (res : Mem), mT_begin w0 i0 x1 x2 M = some res → Wm E p l e 1 s m args below meth c 3 0 [aR (3, w0, i0), aI x1, aI x2] [] M (outV res).1 (outV res).2 := by
  intro w0 i0 x1 x2 M res h
  refine run_at C A rfl hrtV (n := 400) ((eT_begin w0 i0 x1 x2 M).trans h) ?_
  intro t als st M hk; cases hk
def dT_begin {β : Type} : Den β := fun as M k => match as with
  | [.inr (.inr (.inl (al0, w0, i0))), .inl x1, .inl x2] => if al0 = 3 then (mT_begin w0 i0 x1 x2 M).bind fun q => k aU q else none
  | _ => none
theorem wT_begin {E : EV} (hsd : E.2.2.2 = 0) (l : Launch) (w0 : Nat) (i0 : Nat) (x1 : Int32) (x2 : Int32) (M : Mem) (q : Mem) (hq : mT_begin w0 i0 x1 x2 M = some q) : Con E l 1 yT_begin prog_9_method_2_code 3 none [aR (3, w0, i0), aI x1, aI x2] M (outV q).1 (outV q).2 := by
  refine con_of iT_begin (Nat.le_of_ble_eq_true rfl) ?_
  intro p e s m args below meth c C
  exact lT_begin (oT_begin hsd l) C w0 i0 x1 x2 M _ hq
theorem kT_begin {E : EV} (hsd : E.2.2.2 = 0) (l : Launch) {β : Type} : DenOK E l 1 yT_begin prog_9_method_2_code 3 none false (dT_begin (β := β)) := by
  intro as M k res h
  unfold dT_begin at h
  split at h
  ·
    split at h
    · rename_i hc
      obtain rfl := hc
      obtain ⟨q, hq, hk⟩ := Option.bind_eq_some_iff.mp h
      exact ⟨aU, q, hk, rfl, wT_begin hsd l _ _ _ _ M q hq⟩
    · cases h
  · cases h
theorem qT_begin {β : Type} : RecOK 3 (dT_begin (β := β)) := by
  intro as M k res h
  unfold dT_begin at h
  split at h
  ·
    split at h
    · rename_i hc
      obtain rfl := hc
      exact ⟨_, _, _, rfl⟩
    · cases h
  · cases h
/-! ===== FreeLances.town(II)I ===== -/
abbrev yF_town : MethodName := ⟨"FreeLances", "town", "(II)I"⟩
theorem iF_town : MI yF_town prog_1_method_2_code 3 (some .int) 2 := ⟨tw550, tw97, ⟨by decide, by decide⟩, by decide +kernel, by decide, by decide⟩
def cF_town : List (Ent (Int32 × Mem)) := [(false, 0, 1, sLdI 1),
  (false, 1, 1, sC 0),
  (false, 2, 2, sC 99999),
  (false, 4, 3, sInv 3 true dF_within),
  (false, 7, 3, sIfEq 20),
  (false, 10, 1, sLdI 2),
  (false, 11, 1, sC 0),
  (false, 12, 2, sC 99999),
  (false, 14, 3, sInv 3 true dF_within),
  (false, 17, 3, sIfNe 26),
  (false, 20, 1, sLdA 0),
  (false, 21, 1, sC 1),
  (false, 22, 3, sInv 2 true dF_finding),
  (false, 25, 1, sRetI),
  (false, 26, 1, sLdA 0),
  (false, 27, 3, sGet 0 (fun w i M => aR (1, 0, 0))),
  (false, 30, 3, sGet 1 (fun w i M => aI (M 1 w i 2))),
  (false, 33, 2, sC 8),
  (false, 35, 3, sCmpLt 44),
  (false, 38, 1, sLdA 0),
  (false, 39, 1, sC 4),
  (false, 40, 3, sInv 2 true dF_finding),
  (false, 43, 1, sRetI),
  (false, 44, 1, sLdA 0),
  (false, 45, 3, sGet 0 (fun w i M => aR (1, 0, 0))),
  (false, 48, 3, sGet 1 (fun w i M => aR (2, w, 0))),
  (false, 51, 1, sLdA 0),
  (false, 52, 3, sGet 0 (fun w i M => aR (1, 0, 0))),
  (false, 55, 3, sGet 1 (fun w i M => aI (M 1 w i 2))),
  (false, 58, 1, sAald 2 8 3),
  (false, 59, 1, sLdI 1),
  (false, 60, 1, sLdI 2),
  (false, 61, 3, sInv 3 false dT_begin),
  (false, 64, 1, sLdA 0),
  (false, 65, 3, sGet 0 (fun w i M => aR (1, 0, 0))),
  (false, 68, 1, sDup),
  (false, 69, 3, sGet 1 (fun w i M => aI (M 1 w i 2))),
  (false, 72, 1, sDupX1),
  (false, 73, 1, sC 1),
  (false, 74, 1, sBin (fun x y => x + y)),
  (false, 75, 3, sPut 1 2),
  (false, 78, 1, sRetI)]
theorem oF_town {E : EV} (hsd : E.2.2.2 = 0) (l : Launch) : AllOK E l 2 "FreeLances" prog_1_method_2_code 3 (some .int) outI (cF_town) := by
  refine ak (ok_iload_n (k := 1) rfl (by decide +kernel)) ?_
  refine ak (ok_iconst (n := 0) (by decide) (by decide +kernel)) ?_
  refine ak (ok_ldc tw551 (by decide +kernel)) ?_
  refine ak (ok_invS (kF_within hsd l) iF_within tw553 (by decide) tw552 (by decide +kernel)) ?_
  refine ak (ok_if_eq (off := 13) (by decide) (by decide +kernel)) ?_
  refine ak (ok_iload_n (k := 2) rfl (by decide +kernel)) ?_
  refine ak (ok_iconst (n := 0) (by decide) (by decide +kernel)) ?_
  refine ak (ok_ldc tw551 (by decide +kernel)) ?_
  refine ak (ok_invS (kF_within hsd l) iF_within tw553 (by decide) tw552 (by decide +kernel)) ?_
  refine ak (ok_if_ne (off := 9) (by decide) (by decide +kernel)) ?_
  refine ak (ok_aload_n (k := 0) rfl (by decide +kernel)) ?_
  refine ak (ok_iconst (n := 1) (by decide) (by decide +kernel)) ?_
  refine ak (ok_invV (r := 0) (kF_finding hsd l) qF_finding ck10 kd0 iF_finding tw557 tw0 (by decide) tw555 (by decide +kernel)) ?_
  refine ak (ok_ireturn rfl (by decide +kernel)) ?_
  refine ak (ok_aload_n (k := 0) rfl (by decide +kernel)) ?_
  refine ak (ok_get (k := 0) ck10 kd0 (by decide) (fun _ _ _ => rfl) (vf_0_0 hsd) tw522 (by decide +kernel)) ?_
  refine ak (ok_get (k := 2) ck9 kd1 (by decide) (fun _ _ _ => rfl) (fun _ _ _ _ _ => trivial) tw391 (by decide +kernel)) ?_
  refine ak (ok_bipush (n := 8) (by decide) (by decide +kernel)) ?_
  refine ak (ok_icmp_lt (off := 9) (by decide) (by decide +kernel)) ?_
  refine ak (ok_aload_n (k := 0) rfl (by decide +kernel)) ?_
  refine ak (ok_iconst (n := 4) (by decide) (by decide +kernel)) ?_
  refine ak (ok_invV (r := 0) (kF_finding hsd l) qF_finding ck10 kd0 iF_finding tw557 tw0 (by decide) tw555 (by decide +kernel)) ?_
  refine ak (ok_ireturn rfl (by decide +kernel)) ?_
  refine ak (ok_aload_n (k := 0) rfl (by decide +kernel)) ?_
  refine ak (ok_get (k := 0) ck10 kd0 (by decide) (fun _ _ _ => rfl) (vf_0_0 hsd) tw522 (by decide +kernel)) ?_
  refine ak (ok_get (k := 1) ck9 kd1 (by decide) (fun _ _ _ => rfl) (vf_1_1 hsd) tw389 (by decide +kernel)) ?_
  refine ak (ok_aload_n (k := 0) rfl (by decide +kernel)) ?_
  refine ak (ok_get (k := 0) ck10 kd0 (by decide) (fun _ _ _ => rfl) (vf_0_0 hsd) tw522 (by decide +kernel)) ?_
  refine ak (ok_get (k := 2) ck9 kd1 (by decide) (fun _ _ _ => rfl) (fun _ _ _ _ _ => trivial) tw391 (by decide +kernel)) ?_
  refine ak (ok_aald (t0 := 2) (C := RX7) kd2 (by decide) rfl (vr_2 hsd) (by decide +kernel)) ?_
  refine ak (ok_iload_n (k := 1) rfl (by decide +kernel)) ?_
  refine ak (ok_iload_n (k := 2) rfl (by decide +kernel)) ?_
  refine ak (ok_invV (r := 3) (kT_begin hsd l) qT_begin ck7 kd3 iT_begin tw561 tw562 (by decide) tw560 (by decide +kernel)) ?_
  refine ak (ok_aload_n (k := 0) rfl (by decide +kernel)) ?_
  refine ak (ok_get (k := 0) ck10 kd0 (by decide) (fun _ _ _ => rfl) (vf_0_0 hsd) tw522 (by decide +kernel)) ?_
  refine ak (ok_dup (by decide +kernel)) ?_
  refine ak (ok_get (k := 2) ck9 kd1 (by decide) (fun _ _ _ => rfl) (fun _ _ _ _ _ => trivial) tw391 (by decide +kernel)) ?_
  refine ak (ok_dup_x1 (by decide +kernel)) ?_
  refine ak (ok_iconst (n := 1) (by decide) (by decide +kernel)) ?_
  refine ak (ok_iadd (by decide +kernel)) ?_
  refine ak (ok_put (k := 2) ck9 kd1 (by decide) (fun _ _ _ => rfl) rfl rfl (by decide) tw391 (by decide +kernel)) ?_
  refine ak (ok_ireturn rfl (by decide +kernel)) ?_
  exact trivial
set_option maxRecDepth 1000000 in
theorem eF_town (x1 : Int32) (x2 : Int32) (M : Mem) : run (cF_town) (fun _ _ _ _ => none) rtI 400 (seek (cF_town) 0) [aR (0, 0, 0), aI x1, aI x2] [] M = mF_town x1 x2 M := id rfl
theorem lF_town {E : EV} {l : Launch} {p : Program} {e : Env} {s : State} {m : MethodId} {args : Array Value} {below : List Frame} {meth : Method} {c : Code} (A : AllOK E l 2 "FreeLances" prog_1_method_2_code 3 (some .int) outI (cF_town)) (C : Cx E p s m args meth c "FreeLances" prog_1_method_2_code 3 (some .int)) : ∀ (x1 : Int32) (x2 : Int32) (M : Mem) (res : (Int32 × Mem)), mF_town x1 x2 M = some res → Wm E p l e 2 s m args below meth c 3 0 [aR (0, 0, 0), aI x1, aI x2] [] M (outI res).1 (outI res).2 := by
  intro x1 x2 M res h
  refine run_at C A rfl hrtI (n := 400) ((eF_town x1 x2 M).trans h) ?_
  intro t als st M hk; cases hk
def dF_town {β : Type} : Den β := fun as M k => match as with
  | [.inr (.inr (.inl (al0, bl0, cl0))), .inl x1, .inl x2] => if al0 = 0 ∧ bl0 = 0 ∧ cl0 = 0 then (mF_town x1 x2 M).bind fun q => k (aI q.1) q.2 else none
  | _ => none
theorem wF_town {E : EV} (hsd : E.2.2.2 = 0) (l : Launch) (x1 : Int32) (x2 : Int32) (M : Mem) (q : (Int32 × Mem)) (hq : mF_town x1 x2 M = some q) : Con E l 2 yF_town prog_1_method_2_code 3 (some .int) [aR (0, 0, 0), aI x1, aI x2] M (outI q).1 (outI q).2 := by
  refine con_of iF_town (Nat.le_of_ble_eq_true rfl) ?_
  intro p e s m args below meth c C
  exact lF_town (oF_town hsd l) C x1 x2 M _ hq
theorem kF_town {E : EV} (hsd : E.2.2.2 = 0) (l : Launch) {β : Type} : DenOK E l 2 yF_town prog_1_method_2_code 3 (some .int) true (dF_town (β := β)) := by
  intro as M k res h
  unfold dF_town at h
  split at h
  ·
    split at h
    · rename_i hc
      obtain ⟨rfl, rfl, rfl⟩ := hc
      obtain ⟨q, hq, hk⟩ := Option.bind_eq_some_iff.mp h
      exact ⟨aI q.1, q.2, hk, rfl, wF_town hsd l _ _ M q hq⟩
    · cases h
  · cases h
theorem qF_town {β : Type} : RecOK 0 (dF_town (β := β)) := by
  intro as M k res h
  unfold dF_town at h
  split at h
  ·
    split at h
    · rename_i hc
      obtain ⟨rfl, rfl, rfl⟩ := hc
      exact ⟨_, _, _, rfl⟩
    · cases h
  · cases h
/-! ===== FreeLances.isTown(I)Z ===== -/
abbrev yF_isTown : MethodName := ⟨"FreeLances", "isTown", "(I)Z"⟩
theorem iF_isTown : MI yF_isTown prog_1_method_63_code 2 (some .boolean) 1 := ⟨tw571, tw97, ⟨by decide, by decide⟩, by decide +kernel, by decide, by decide⟩
def cF_isTown : List (Ent (Int32 × Mem)) := [(false, 0, 1, sLdI 1),
  (false, 1, 1, sC 0),
  (false, 2, 1, sLdA 0),
  (false, 3, 3, sGet 0 (fun w i M => aR (1, 0, 0))),
  (false, 6, 3, sGet 1 (fun w i M => aI (M 1 w i 2))),
  (false, 9, 1, sC 1),
  (false, 10, 1, sBin (fun x y => x - y)),
  (false, 11, 3, sInv 3 true dF_within),
  (false, 14, 1, sRetZ)]
theorem oF_isTown {E : EV} (hsd : E.2.2.2 = 0) (l : Launch) : AllOK E l 2 "FreeLances" prog_1_method_63_code 2 (some .boolean) outI (cF_isTown) := by
  refine ak (ok_iload_n (k := 1) rfl (by decide +kernel)) ?_
  refine ak (ok_iconst (n := 0) (by decide) (by decide +kernel)) ?_
  refine ak (ok_aload_n (k := 0) rfl (by decide +kernel)) ?_
  refine ak (ok_get (k := 0) ck10 kd0 (by decide) (fun _ _ _ => rfl) (vf_0_0 hsd) tw522 (by decide +kernel)) ?_
  refine ak (ok_get (k := 2) ck9 kd1 (by decide) (fun _ _ _ => rfl) (fun _ _ _ _ _ => trivial) tw391 (by decide +kernel)) ?_
  refine ak (ok_iconst (n := 1) (by decide) (by decide +kernel)) ?_
  refine ak (ok_isub (by decide +kernel)) ?_
  refine ak (ok_invS (kF_within hsd l) iF_within tw553 (by decide) tw552 (by decide +kernel)) ?_
  refine ak (ok_zreturn rfl (by decide +kernel)) ?_
  exact trivial
set_option maxRecDepth 1000000 in
theorem eF_isTown (x1 : Int32) (M : Mem) : run (cF_isTown) (fun _ _ _ _ => none) rtI 400 (seek (cF_isTown) 0) [aR (0, 0, 0), aI x1] [] M = mF_isTown x1 M := id rfl
theorem lF_isTown {E : EV} {l : Launch} {p : Program} {e : Env} {s : State} {m : MethodId} {args : Array Value} {below : List Frame} {meth : Method} {c : Code} (A : AllOK E l 2 "FreeLances" prog_1_method_63_code 2 (some .boolean) outI (cF_isTown)) (C : Cx E p s m args meth c "FreeLances" prog_1_method_63_code 2 (some .boolean)) : ∀ (x1 : Int32) (M : Mem) (res : (Int32 × Mem)), mF_isTown x1 M = some res → Wm E p l e 2 s m args below meth c 2 0 [aR (0, 0, 0), aI x1] [] M (outI res).1 (outI res).2 := by
  intro x1 M res h
  refine run_at C A rfl hrtI (n := 400) ((eF_isTown x1 M).trans h) ?_
  intro t als st M hk; cases hk
def dF_isTown {β : Type} : Den β := fun as M k => match as with
  | [.inr (.inr (.inl (al0, bl0, cl0))), .inl x1] => if al0 = 0 ∧ bl0 = 0 ∧ cl0 = 0 then (mF_isTown x1 M).bind fun q => k (aI q.1) q.2 else none
  | _ => none
theorem wF_isTown {E : EV} (hsd : E.2.2.2 = 0) (l : Launch) (x1 : Int32) (M : Mem) (q : (Int32 × Mem)) (hq : mF_isTown x1 M = some q) : Con E l 2 yF_isTown prog_1_method_63_code 2 (some .boolean) [aR (0, 0, 0), aI x1] M (outI q).1 (outI q).2 := by
  refine con_of iF_isTown (Nat.le_of_ble_eq_true rfl) ?_
  intro p e s m args below meth c C
  exact lF_isTown (oF_isTown hsd l) C x1 M _ hq
theorem kF_isTown {E : EV} (hsd : E.2.2.2 = 0) (l : Launch) {β : Type} : DenOK E l 2 yF_isTown prog_1_method_63_code 2 (some .boolean) true (dF_isTown (β := β)) := by
  intro as M k res h
  unfold dF_isTown at h
  split at h
  ·
    split at h
    · rename_i hc
      obtain ⟨rfl, rfl, rfl⟩ := hc
      obtain ⟨q, hq, hk⟩ := Option.bind_eq_some_iff.mp h
      exact ⟨aI q.1, q.2, hk, rfl, wF_isTown hsd l _ M q hq⟩
    · cases h
  · cases h
theorem qF_isTown {β : Type} : RecOK 0 (dF_isTown (β := β)) := by
  intro as M k res h
  unfold dF_isTown at h
  split at h
  ·
    split at h
    · rename_i hc
      obtain ⟨rfl, rfl, rfl⟩ := hc
      exact ⟨_, _, _, rfl⟩
    · cases h
  · cases h
/-! ===== FreeLances$World.way(II)I ===== -/
abbrev yW_way : MethodName := ⟨"FreeLances$World", "way", "(II)I"⟩
theorem iW_way : MI yW_way prog_11_method_3_code 3 (some .int) 2 := ⟨tw579, tw98, ⟨by decide, by decide⟩, by decide +kernel, by decide, by decide⟩
def cW_way : List (Ent (Int32 × Mem)) := [(false, 0, 1, sLdA 0),
  (false, 1, 3, sGet 1 (fun w i M => aR (4, w, 0))),
  (false, 4, 1, sLdI 1),
  (false, 5, 2, sC 8),
  (false, 7, 1, sBin (fun x y => x * y)),
  (false, 8, 1, sLdI 2),
  (false, 9, 1, sBin (fun x y => x + y)),
  (false, 10, 1, sIald 4 64),
  (false, 11, 1, sRetI)]
theorem oW_way {E : EV} (hsd : E.2.2.2 = 0) (l : Launch) : AllOK E l 1 "FreeLances$World" prog_11_method_3_code 3 (some .int) outI (cW_way) := by
  refine ak (ok_aload_n (k := 0) rfl (by decide +kernel)) ?_
  refine ak (ok_get (k := 4) ck9 kd1 (by decide) (fun _ _ _ => rfl) (vf_1_4 hsd) tw395 (by decide +kernel)) ?_
  refine ak (ok_iload_n (k := 1) rfl (by decide +kernel)) ?_
  refine ak (ok_bipush (n := 8) (by decide) (by decide +kernel)) ?_
  refine ak (ok_imul (by decide +kernel)) ?_
  refine ak (ok_iload_n (k := 2) rfl (by decide +kernel)) ?_
  refine ak (ok_iadd (by decide +kernel)) ?_
  refine ak (ok_iald kd4 (by decide) (by decide +kernel)) ?_
  refine ak (ok_ireturn rfl (by decide +kernel)) ?_
  exact trivial
set_option maxRecDepth 1000000 in
theorem eW_way (w0 : Nat) (x1 : Int32) (x2 : Int32) (M : Mem) : run (cW_way) (fun _ _ _ _ => none) rtI 400 (seek (cW_way) 0) [aR (1, w0, 0), aI x1, aI x2] [] M = mW_way w0 x1 x2 M := id rfl
theorem lW_way {E : EV} {l : Launch} {p : Program} {e : Env} {s : State} {m : MethodId} {args : Array Value} {below : List Frame} {meth : Method} {c : Code} (A : AllOK E l 1 "FreeLances$World" prog_11_method_3_code 3 (some .int) outI (cW_way)) (C : Cx E p s m args meth c "FreeLances$World" prog_11_method_3_code 3 (some .int)) : ∀ (w0 : Nat) (x1 : Int32) (x2 : Int32) (M : Mem) (res : (Int32 × Mem)), mW_way w0 x1 x2 M = some res → Wm E p l e 1 s m args below meth c 3 0 [aR (1, w0, 0), aI x1, aI x2] [] M (outI res).1 (outI res).2 := by
  intro w0 x1 x2 M res h
  refine run_at C A rfl hrtI (n := 400) ((eW_way w0 x1 x2 M).trans h) ?_
  intro t als st M hk; cases hk
def dW_way {β : Type} : Den β := fun as M k => match as with
  | [.inr (.inr (.inl (al0, w0, cl0))), .inl x1, .inl x2] => if al0 = 1 ∧ cl0 = 0 then (mW_way w0 x1 x2 M).bind fun q => k (aI q.1) q.2 else none
  | _ => none
theorem wW_way {E : EV} (hsd : E.2.2.2 = 0) (l : Launch) (w0 : Nat) (x1 : Int32) (x2 : Int32) (M : Mem) (q : (Int32 × Mem)) (hq : mW_way w0 x1 x2 M = some q) : Con E l 1 yW_way prog_11_method_3_code 3 (some .int) [aR (1, w0, 0), aI x1, aI x2] M (outI q).1 (outI q).2 := by
  refine con_of iW_way (Nat.le_of_ble_eq_true rfl) ?_
  intro p e s m args below meth c C
  exact lW_way (oW_way hsd l) C w0 x1 x2 M _ hq
theorem kW_way {E : EV} (hsd : E.2.2.2 = 0) (l : Launch) {β : Type} : DenOK E l 1 yW_way prog_11_method_3_code 3 (some .int) true (dW_way (β := β)) := by
  intro as M k res h
  unfold dW_way at h
  split at h
  ·
    split at h
    · rename_i hc
      obtain ⟨rfl, rfl⟩ := hc
      obtain ⟨q, hq, hk⟩ := Option.bind_eq_some_iff.mp h
      exact ⟨aI q.1, q.2, hk, rfl, wW_way hsd l _ _ _ M q hq⟩
    · cases h
  · cases h
theorem qW_way {β : Type} : RecOK 1 (dW_way (β := β)) := by
  intro as M k res h
  unfold dW_way at h
  split at h
  ·
    split at h
    · rename_i hc
      obtain ⟨rfl, rfl⟩ := hc
      exact ⟨_, _, _, rfl⟩
    · cases h
  · cases h
/-! ===== FreeLances$World.join(III)V ===== -/
abbrev yW_join : MethodName := ⟨"FreeLances$World", "join", "(III)V"⟩
theorem iW_join : MI yW_join prog_11_method_4_code 9 none 3 := ⟨tw575, tw98, ⟨by decide, by decide⟩, by decide +kernel, by decide, by decide⟩
def cW_join : List (Ent Mem) := [(false, 0, 1, sC 0),
  (false, 1, 2, sStI 4),
  (true, 3, 2, sLdI 4),
  (false, 5, 1, sLdA 0),
  (false, 6, 3, sGet 1 (fun w i M => aI (M 1 w i 2))),
  (false, 9, 3, sCmpGe 108),
  (false, 12, 1, sC 0),
  (false, 13, 2, sStI 5),
  (true, 15, 2, sLdI 5),
  (false, 17, 1, sLdA 0),
  (false, 18, 3, sGet 1 (fun w i M => aI (M 1 w i 2))),
  (false, 21, 3, sCmpGe 102),
  (false, 24, 1, sLdA 0),
  (false, 25, 2, sLdI 4),
  (false, 27, 1, sLdI 1),
  (false, 28, 3, sInv 3 true dW_way),
  (false, 31, 1, sLdI 3),
  (false, 32, 1, sBin (fun x y => x + y)),
  (false, 33, 1, sLdA 0),
  (false, 34, 1, sLdI 2),
  (false, 35, 2, sLdI 5),
  (false, 37, 3, sInv 3 true dW_way),
  (false, 40, 1, sBin (fun x y => x + y)),
  (false, 41, 2, sStI 6),
  (false, 43, 1, sLdA 0),
  (false, 44, 2, sLdI 4),
  (false, 46, 1, sLdI 2),
  (false, 47, 3, sInv 3 true dW_way),
  (false, 50, 1, sLdI 3),
  (false, 51, 1, sBin (fun x y => x + y)),
  (false, 52, 1, sLdA 0),
  (false, 53, 1, sLdI 1),
  (false, 54, 2, sLdI 5),
  (false, 56, 3, sInv 3 true dW_way),
  (false, 59, 1, sBin (fun x y => x + y)),
  (false, 60, 2, sStI 7),
  (false, 62, 2, sLdI 4),
  (false, 64, 2, sC 8),
  (false, 66, 1, sBin (fun x y => x * y)),
  (false, 67, 2, sLdI 5),
  (false, 69, 1, sBin (fun x y => x + y)),
  (false, 70, 2, sStI 8),
  (false, 72, 1, sLdA 0),
  (false, 73, 3, sGet 1 (fun w i M => aR (4, w, 0))),
  (false, 76, 2, sLdI 8),
  (false, 78, 1, sLdA 0),
  (false, 79, 3, sGet 1 (fun w i M => aR (4, w, 0))),
  (false, 82, 2, sLdI 8),
  (false, 84, 1, sIald 4 64),
  (false, 85, 2, sLdI 6),
  (false, 87, 2, sLdI 7),
  (false, 89, 3, sMin),
  (false, 92, 3, sMin),
  (false, 95, 1, sIast 4 64),
  (false, 96, 3, sInc 5 1),
  (false, 99, 3, sGoto 15),
  (false, 102, 3, sInc 4 1),
  (false, 105, 3, sGoto 3),
  (false, 108, 1, sRetV)]
theorem oW_join {E : EV} (hsd : E.2.2.2 = 0) (l : Launch) : AllOK E l 2 "FreeLances$World" prog_11_method_4_code 9 none outV (cW_join) := by
  refine ak (ok_iconst (n := 0) (by decide) (by decide +kernel)) ?_
  refine ak (ok_istore (by decide) (by decide +kernel)) ?_
  refine ak (ok_iload (by decide +kernel)) ?_
  refine ak (ok_aload_n (k := 0) rfl (by decide +kernel)) ?_
  refine ak (ok_get (k := 2) ck9 kd1 (by decide) (fun _ _ _ => rfl) (fun _ _ _ _ _ => trivial) tw390 (by decide +kernel)) ?_
  refine ak (ok_icmp_ge (off := 99) (by decide) (by decide +kernel)) ?_
  refine ak (ok_iconst (n := 0) (by decide) (by decide +kernel)) ?_
  refine ak (ok_istore (by decide) (by decide +kernel)) ?_
  refine ak (ok_iload (by decide +kernel)) ?_
  refine ak (ok_aload_n (k := 0) rfl (by decide +kernel)) ?_
  refine ak (ok_get (k := 2) ck9 kd1 (by decide) (fun _ _ _ => rfl) (fun _ _ _ _ _ => trivial) tw390 (by decide +kernel)) ?_
  refine ak (ok_icmp_ge (off := 81) (by decide) (by decide +kernel)) ?_
  refine ak (ok_aload_n (k := 0) rfl (by decide +kernel)) ?_
  refine ak (ok_iload (by decide +kernel)) ?_
  refine ak (ok_iload_n (k := 1) rfl (by decide +kernel)) ?_
  refine ak (ok_invV (r := 1) (kW_way hsd l) qW_way ck9 kd1 iW_way tw577 tw578 (by decide) tw576 (by decide +kernel)) ?_
  refine ak (ok_iload_n (k := 3) rfl (by decide +kernel)) ?_
  refine ak (ok_iadd (by decide +kernel)) ?_
  refine ak (ok_aload_n (k := 0) rfl (by decide +kernel)) ?_
  refine ak (ok_iload_n (k := 2) rfl (by decide +kernel)) ?_
  refine ak (ok_iload (by decide +kernel)) ?_
  refine ak (ok_invV (r := 1) (kW_way hsd l) qW_way ck9 kd1 iW_way tw577 tw578 (by decide) tw576 (by decide +kernel)) ?_
  refine ak (ok_iadd (by decide +kernel)) ?_
  refine ak (ok_istore (by decide) (by decide +kernel)) ?_
  refine ak (ok_aload_n (k := 0) rfl (by decide +kernel)) ?_
  refine ak (ok_iload (by decide +kernel)) ?_
  refine ak (ok_iload_n (k := 2) rfl (by decide +kernel)) ?_
  refine ak (ok_invV (r := 1) (kW_way hsd l) qW_way ck9 kd1 iW_way tw577 tw578 (by decide) tw576 (by decide +kernel)) ?_
  refine ak (ok_iload_n (k := 3) rfl (by decide +kernel)) ?_
  refine ak (ok_iadd (by decide +kernel)) ?_
  refine ak (ok_aload_n (k := 0) rfl (by decide +kernel)) ?_
  refine ak (ok_iload_n (k := 1) rfl (by decide +kernel)) ?_
  refine ak (ok_iload (by decide +kernel)) ?_
  refine ak (ok_invV (r := 1) (kW_way hsd l) qW_way ck9 kd1 iW_way tw577 tw578 (by decide) tw576 (by decide +kernel)) ?_
  refine ak (ok_iadd (by decide +kernel)) ?_
  refine ak (ok_istore (by decide) (by decide +kernel)) ?_
  refine ak (ok_iload (by decide +kernel)) ?_
  refine ak (ok_bipush (n := 8) (by decide) (by decide +kernel)) ?_
  refine ak (ok_imul (by decide +kernel)) ?_
  refine ak (ok_iload (by decide +kernel)) ?_
  refine ak (ok_iadd (by decide +kernel)) ?_
  refine ak (ok_istore (by decide) (by decide +kernel)) ?_
  refine ak (ok_aload_n (k := 0) rfl (by decide +kernel)) ?_
  refine ak (ok_get (k := 4) ck9 kd1 (by decide) (fun _ _ _ => rfl) (vf_1_4 hsd) tw395 (by decide +kernel)) ?_
  refine ak (ok_iload (by decide +kernel)) ?_
  refine ak (ok_aload_n (k := 0) rfl (by decide +kernel)) ?_
  refine ak (ok_get (k := 4) ck9 kd1 (by decide) (fun _ _ _ => rfl) (vf_1_4 hsd) tw395 (by decide +kernel)) ?_
  refine ak (ok_iload (by decide +kernel)) ?_
  refine ak (ok_iald kd4 (by decide) (by decide +kernel)) ?_
  refine ak (ok_iload (by decide +kernel)) ?_
  refine ak (ok_iload (by decide +kernel)) ?_
  refine ak (ok_mmin (by decide) tw580 tw581 tw109 twMmin (by decide +kernel)) ?_
  refine ak (ok_mmin (by decide) tw580 tw581 tw109 twMmin (by decide +kernel)) ?_
  refine ak (ok_iast kd4 (by decide) (by decide) (by decide +kernel)) ?_
  refine ak (ok_iinc (n := 1) (by decide) (by decide) (by decide +kernel)) ?_
  refine ak (ok_goto (off := (-84)) (by decide) (by decide +kernel)) ?_
  refine ak (ok_iinc (n := 1) (by decide) (by decide) (by decide +kernel)) ?_
  refine ak (ok_goto (off := (-102)) (by decide) (by decide +kernel)) ?_
  refine ak (ok_return rfl (by decide +kernel)) ?_
  exact trivial
def KW_join_15 (j3 : Nat → Int32 → Int32 → Int32 → Int32 → Mem → Option Mem) (j15 : Nat → Int32 → Int32 → Int32 → Int32 → Int32 → Mem → Option Mem) : Jm Mem := fun t als st M =>
  if t = 3 then (match als, st with
  | [.inr (.inr (.inl (al0, w0, cl0))), .inl x1, .inl x2, .inl x3, .inl x4, _, _, _, _], [] => if al0 = 1 ∧ cl0 = 0 then j3 w0 x1 x2 x3 x4 M else none
  | _, _ => none) else
  if t = 15 then (match als, st with
  | [.inr (.inr (.inl (al0, w0, cl0))), .inl x1, .inl x2, .inl x3, .inl x4, .inl x5, _, _, _], [] => if al0 = 1 ∧ cl0 = 0 then j15 w0 x1 x2 x3 x4 x5 M else none
  | _, _ => none) else
  none
set_option maxRecDepth 1000000 in
theorem eW_join_15 (j3 : Nat → Int32 → Int32 → Int32 → Int32 → Mem → Option Mem) (j15 : Nat → Int32 → Int32 → Int32 → Int32 → Int32 → Mem → Option Mem) (w0 : Nat) (x1 : Int32) (x2 : Int32) (x3 : Int32) (x4 : Int32) (x5 : Int32) (M : Mem) (u6 u7 u8 : AV) : run (cW_join) (KW_join_15 j3 j15) rtV 400 (seek (cW_join) 15) [aR (1, w0, 0), aI x1, aI x2, aI x3, aI x4, aI x5, u6, u7, u8] [] M = mW_join_15b j3 j15 w0 x1 x2 x3 x4 x5 M := id rfl
theorem lW_join_15 {E : EV} {l : Launch} {p : Program} {e : Env} {s : State} {m : MethodId} {args : Array Value} {below : List Frame} {meth : Method} {c : Code} (A : AllOK E l 2 "FreeLances$World" prog_11_method_4_code 9 none outV (cW_join)) (C : Cx E p s m args meth c "FreeLances$World" prog_11_method_4_code 9 none) {r3 : Nat → Int32 → Int32 → Int32 → Int32 → Mem → Option Mem} (H3 : ∀ (w0 : Nat) (x1 : Int32) (x2 : Int32) (x3 : Int32) (x4 : Int32) (M : Mem) (res : Mem), r3 w0 x1 x2 x3 x4 M = some res → ∀ (u5 u6 u7 u8 : AV), Wm E p l e 2 s m args below meth c 9 3 [aR (1, w0, 0), aI x1, aI x2, aI x3, aI x4, u5, u6, u7, u8] [] M (outV res).1 (outV res).2) : ∀ (n : Nat), ∀ (w0 : Nat) (x1 : Int32) (x2 : Int32) (x3 : Int32) (x4 : Int32) (x5 : Int32) (M : Mem) (res : Mem), mW_join_15 r3 n w0 x1 x2 x3 x4 x5 M = some res → ∀ (u6 u7 u8 : AV), Wm E p l e 2 s m args below meth c 9 15 [aR (1, w0, 0), aI x1, aI x2, aI x3, aI x4, aI x5, u6, u7, u8] [] M (outV res).1 (outV res).2 := by
  intro n
  induction n with
  | zero => intro _ _ _ _ _ _ M res h; cases h
  | succ n ih =>
    intro w0 x1 x2 x3 x4 x5 M res h u6 u7 u8
    refine run_at C A rfl hrtV (n := 400) ((eW_join_15 r3 (mW_join_15 r3 n) w0 x1 x2 x3 x4 x5 M u6 u7 u8).trans h) ?_
    intro t als st M hk
    unfold KW_join_15 at hk
    split at hk
    · rename_i ht
      subst ht
      split at hk
      · split at hk
        · rename_i hc
          obtain ⟨rfl, rfl⟩ := hc
          exact H3 _ _ _ _ _ _ _ hk _ _ _ _
        · cases hk
      · cases hk
    split at hk
    · rename_i ht
      subst ht
      split at hk
      · split at hk
        · rename_i hc
          obtain ⟨rfl, rfl⟩ := hc
          exact ih _ _ _ _ _ _ _ _ hk _ _ _
        · cases hk
      · cases hk
    cases hk
def KW_join_3 (j15 : Nat → Int32 → Int32 → Int32 → Int32 → Int32 → Mem → Option Mem) : Jm Mem := fun t als st M =>
  if t = 15 then (match als, st with
  | [.inr (.inr (.inl (al0, w0, cl0))), .inl x1, .inl x2, .inl x3, .inl x4, .inl x5, _, _, _], [] => if al0 = 1 ∧ cl0 = 0 then j15 w0 x1 x2 x3 x4 x5 M else none
  | _, _ => none) else
  none
set_option maxRecDepth 1000000 in
theorem eW_join_3 (j15 : Nat → Int32 → Int32 → Int32 → Int32 → Int32 → Mem → Option Mem) (w0 : Nat) (x1 : Int32) (x2 : Int32) (x3 : Int32) (x4 : Int32) (M : Mem) (u5 u6 u7 u8 : AV) : run (cW_join) (KW_join_3 j15) rtV 400 (seek (cW_join) 3) [aR (1, w0, 0), aI x1, aI x2, aI x3, aI x4, u5, u6, u7, u8] [] M = mW_join_3b j15 w0 x1 x2 x3 x4 M := id rfl
theorem lW_join_3 {E : EV} {l : Launch} {p : Program} {e : Env} {s : State} {m : MethodId} {args : Array Value} {below : List Frame} {meth : Method} {c : Code} (A : AllOK E l 2 "FreeLances$World" prog_11_method_4_code 9 none outV (cW_join)) (C : Cx E p s m args meth c "FreeLances$World" prog_11_method_4_code 9 none) : ∀ (n : Nat), ∀ (w0 : Nat) (x1 : Int32) (x2 : Int32) (x3 : Int32) (x4 : Int32) (M : Mem) (res : Mem), mW_join_3 n w0 x1 x2 x3 x4 M = some res → ∀ (u5 u6 u7 u8 : AV), Wm E p l e 2 s m args below meth c 9 3 [aR (1, w0, 0), aI x1, aI x2, aI x3, aI x4, u5, u6, u7, u8] [] M (outV res).1 (outV res).2 := by
  intro n
  induction n with
  | zero => intro _ _ _ _ _ M res h; cases h
  | succ n ih =>
    intro w0 x1 x2 x3 x4 M res h u5 u6 u7 u8
    refine run_at C A rfl hrtV (n := 400) ((eW_join_3 (mW_join_15 (mW_join_3 n) fuel) w0 x1 x2 x3 x4 M u5 u6 u7 u8).trans h) ?_
    intro t als st M hk
    unfold KW_join_3 at hk
    split at hk
    · rename_i ht
      subst ht
      split at hk
      · split at hk
        · rename_i hc
          obtain ⟨rfl, rfl⟩ := hc
          exact lW_join_15 A C ih _ _ _ _ _ _ _ _ _ hk _ _ _
        · cases hk
      · cases hk
    cases hk
def KW_join (j3 : Nat → Int32 → Int32 → Int32 → Int32 → Mem → Option Mem) : Jm Mem := fun t als st M =>
  if t = 3 then (match als, st with
  | [.inr (.inr (.inl (al0, w0, cl0))), .inl x1, .inl x2, .inl x3, .inl x4, _, _, _, _], [] => if al0 = 1 ∧ cl0 = 0 then j3 w0 x1 x2 x3 x4 M else none
  | _, _ => none) else
  none
set_option maxRecDepth 1000000 in
theorem eW_join (j3 : Nat → Int32 → Int32 → Int32 → Int32 → Mem → Option Mem) (w0 : Nat) (x1 : Int32) (x2 : Int32) (x3 : Int32) (M : Mem) : run (cW_join) (KW_join j3) rtV 400 (seek (cW_join) 0) [aR (1, w0, 0), aI x1, aI x2, aI x3, aU, aU, aU, aU, aU] [] M = mW_joinb j3 w0 x1 x2 x3 M := id rfl
theorem lW_join {E : EV} {l : Launch} {p : Program} {e : Env} {s : State} {m : MethodId} {args : Array Value} {below : List Frame} {meth : Method} {c : Code} (A : AllOK E l 2 "FreeLances$World" prog_11_method_4_code 9 none outV (cW_join)) (C : Cx E p s m args meth c "FreeLances$World" prog_11_method_4_code 9 none) : ∀ (w0 : Nat) (x1 : Int32) (x2 : Int32) (x3 : Int32) (M : Mem) (res : Mem), mW_join w0 x1 x2 x3 M = some res → Wm E p l e 2 s m args below meth c 9 0 [aR (1, w0, 0), aI x1, aI x2, aI x3, aU, aU, aU, aU, aU] [] M (outV res).1 (outV res).2 := by
  intro w0 x1 x2 x3 M res h
  refine run_at C A rfl hrtV (n := 400) ((eW_join (mW_join_3 fuel) w0 x1 x2 x3 M).trans h) ?_
  intro t als st M hk
  unfold KW_join at hk
  split at hk
  · rename_i ht
    subst ht
    split at hk
    · split at hk
      · rename_i hc
        obtain ⟨rfl, rfl⟩ := hc
        exact lW_join_3 A C _ _ _ _ _ _ _ _ hk _ _ _ _
      · cases hk
    · cases hk
  cases hk
def dW_join {β : Type} : Den β := fun as M k => match as with
  | [.inr (.inr (.inl (al0, w0, cl0))), .inl x1, .inl x2, .inl x3] => if al0 = 1 ∧ cl0 = 0 then (mW_join w0 x1 x2 x3 M).bind fun q => k aU q else none
  | _ => none
theorem wW_join {E : EV} (hsd : E.2.2.2 = 0) (l : Launch) (w0 : Nat) (x1 : Int32) (x2 : Int32) (x3 : Int32) (M : Mem) (q : Mem) (hq : mW_join w0 x1 x2 x3 M = some q) : Con E l 2 yW_join prog_11_method_4_code 9 none [aR (1, w0, 0), aI x1, aI x2, aI x3] M (outV q).1 (outV q).2 := by
  refine con_of iW_join (Nat.le_of_ble_eq_true rfl) ?_
  intro p e s m args below meth c C
  exact lW_join (oW_join hsd l) C w0 x1 x2 x3 M _ hq
theorem kW_join {E : EV} (hsd : E.2.2.2 = 0) (l : Launch) {β : Type} : DenOK E l 2 yW_join prog_11_method_4_code 9 none false (dW_join (β := β)) := by
  intro as M k res h
  unfold dW_join at h
  split at h
  ·
    split at h
    · rename_i hc
      obtain ⟨rfl, rfl⟩ := hc
      obtain ⟨q, hq, hk⟩ := Option.bind_eq_some_iff.mp h
      exact ⟨aU, q, hk, rfl, wW_join hsd l _ _ _ _ M q hq⟩
    · cases h
  · cases h
theorem qW_join {β : Type} : RecOK 1 (dW_join (β := β)) := by
  intro as M k res h
  unfold dW_join at h
  split at h
  ·
    split at h
    · rename_i hc
      obtain ⟨rfl, rfl⟩ := hc
      exact ⟨_, _, _, rfl⟩
    · cases h
  · cases h
/-! ===== FreeLances.road(III)I ===== -/
abbrev yF_road : MethodName := ⟨"FreeLances", "road", "(III)I"⟩
theorem iF_road : MI yF_road prog_1_method_3_code 4 (some .int) 3 := ⟨tw567, tw97, ⟨by decide, by decide⟩, by decide +kernel, by decide, by decide⟩
def cF_road : List (Ent (Int32 × Mem)) := [(false, 0, 1, sLdA 0),
  (false, 1, 1, sLdI 1),
  (false, 2, 3, sInv 2 true dF_isTown),
  (false, 5, 3, sIfEq 31),
  (false, 8, 1, sLdA 0),
  (false, 9, 1, sLdI 2),
  (false, 10, 3, sInv 2 true dF_isTown),
  (false, 13, 3, sIfEq 31),
  (false, 16, 1, sLdI 1),
  (false, 17, 1, sLdI 2),
  (false, 18, 3, sCmpEq 31),
  (false, 21, 1, sLdI 3),
  (false, 22, 1, sC 1),
  (false, 23, 2, sC 9),
  (false, 25, 3, sInv 3 true dF_within),
  (false, 28, 3, sIfNe 37),
  (false, 31, 1, sLdA 0),
  (false, 32, 1, sC 1),
  (false, 33, 3, sInv 2 true dF_finding),
  (false, 36, 1, sRetI),
  (false, 37, 1, sLdA 0),
  (false, 38, 3, sGet 0 (fun w i M => aR (1, 0, 0))),
  (false, 41, 3, sGet 1 (fun w i M => aI (M 1 w i 3))),
  (false, 44, 2, sC 16),
  (false, 46, 3, sCmpLt 55),
  (false, 49, 1, sLdA 0),
  (false, 50, 1, sC 4),
  (false, 51, 3, sInv 2 true dF_finding),
  (false, 54, 1, sRetI),
  (false, 55, 1, sLdA 0),
  (false, 56, 3, sGet 0 (fun w i M => aR (1, 0, 0))),
  (false, 59, 1, sLdI 1),
  (false, 60, 1, sLdI 2),
  (false, 61, 1, sLdI 3),
  (false, 62, 3, sInv 4 false dW_join),
  (false, 65, 1, sLdA 0),
  (false, 66, 3, sGet 0 (fun w i M => aR (1, 0, 0))),
  (false, 69, 1, sDup),
  (false, 70, 3, sGet 1 (fun w i M => aI (M 1 w i 3))),
  (false, 73, 1, sC 1),
  (false, 74, 1, sBin (fun x y => x + y)),
  (false, 75, 1, sDupX1),
  (false, 76, 3, sPut 1 3),
  (false, 79, 1, sRetI)]
theorem oF_road {E : EV} (hsd : E.2.2.2 = 0) (l : Launch) : AllOK E l 3 "FreeLances" prog_1_method_3_code 4 (some .int) outI (cF_road) := by
  refine ak (ok_aload_n (k := 0) rfl (by decide +kernel)) ?_
  refine ak (ok_iload_n (k := 1) rfl (by decide +kernel)) ?_
  refine ak (ok_invV (r := 0) (kF_isTown hsd l) qF_isTown ck10 kd0 iF_isTown tw570 tw1 (by decide) tw568 (by decide +kernel)) ?_
  refine ak (ok_if_eq (off := 26) (by decide) (by decide +kernel)) ?_
  refine ak (ok_aload_n (k := 0) rfl (by decide +kernel)) ?_
  refine ak (ok_iload_n (k := 2) rfl (by decide +kernel)) ?_
  refine ak (ok_invV (r := 0) (kF_isTown hsd l) qF_isTown ck10 kd0 iF_isTown tw570 tw1 (by decide) tw568 (by decide +kernel)) ?_
  refine ak (ok_if_eq (off := 18) (by decide) (by decide +kernel)) ?_
  refine ak (ok_iload_n (k := 1) rfl (by decide +kernel)) ?_
  refine ak (ok_iload_n (k := 2) rfl (by decide +kernel)) ?_
  refine ak (ok_icmp_eq (off := 13) (by decide) (by decide +kernel)) ?_
  refine ak (ok_iload_n (k := 3) rfl (by decide +kernel)) ?_
  refine ak (ok_iconst (n := 1) (by decide) (by decide +kernel)) ?_
  refine ak (ok_bipush (n := 9) (by decide) (by decide +kernel)) ?_
  refine ak (ok_invS (kF_within hsd l) iF_within tw553 (by decide) tw552 (by decide +kernel)) ?_
  refine ak (ok_if_ne (off := 9) (by decide) (by decide +kernel)) ?_
  refine ak (ok_aload_n (k := 0) rfl (by decide +kernel)) ?_
  refine ak (ok_iconst (n := 1) (by decide) (by decide +kernel)) ?_
  refine ak (ok_invV (r := 0) (kF_finding hsd l) qF_finding ck10 kd0 iF_finding tw557 tw0 (by decide) tw555 (by decide +kernel)) ?_
  refine ak (ok_ireturn rfl (by decide +kernel)) ?_
  refine ak (ok_aload_n (k := 0) rfl (by decide +kernel)) ?_
  refine ak (ok_get (k := 0) ck10 kd0 (by decide) (fun _ _ _ => rfl) (vf_0_0 hsd) tw522 (by decide +kernel)) ?_
  refine ak (ok_get (k := 3) ck9 kd1 (by decide) (fun _ _ _ => rfl) (fun _ _ _ _ _ => trivial) tw394 (by decide +kernel)) ?_
  refine ak (ok_bipush (n := 16) (by decide) (by decide +kernel)) ?_
  refine ak (ok_icmp_lt (off := 9) (by decide) (by decide +kernel)) ?_
  refine ak (ok_aload_n (k := 0) rfl (by decide +kernel)) ?_
  refine ak (ok_iconst (n := 4) (by decide) (by decide +kernel)) ?_
  refine ak (ok_invV (r := 0) (kF_finding hsd l) qF_finding ck10 kd0 iF_finding tw557 tw0 (by decide) tw555 (by decide +kernel)) ?_
  refine ak (ok_ireturn rfl (by decide +kernel)) ?_
  refine ak (ok_aload_n (k := 0) rfl (by decide +kernel)) ?_
  refine ak (ok_get (k := 0) ck10 kd0 (by decide) (fun _ _ _ => rfl) (vf_0_0 hsd) tw522 (by decide +kernel)) ?_
  refine ak (ok_iload_n (k := 1) rfl (by decide +kernel)) ?_
  refine ak (ok_iload_n (k := 2) rfl (by decide +kernel)) ?_
  refine ak (ok_iload_n (k := 3) rfl (by decide +kernel)) ?_
  refine ak (ok_invV (r := 1) (kW_join hsd l) qW_join ck9 kd1 iW_join tw573 tw574 (by decide) tw572 (by decide +kernel)) ?_
  refine ak (ok_aload_n (k := 0) rfl (by decide +kernel)) ?_
  refine ak (ok_get (k := 0) ck10 kd0 (by decide) (fun _ _ _ => rfl) (vf_0_0 hsd) tw522 (by decide +kernel)) ?_
  refine ak (ok_dup (by decide +kernel)) ?_
  refine ak (ok_get (k := 3) ck9 kd1 (by decide) (fun _ _ _ => rfl) (fun _ _ _ _ _ => trivial) tw394 (by decide +kernel)) ?_
  refine ak (ok_iconst (n := 1) (by decide) (by decide +kernel)) ?_
  refine ak (ok_iadd (by decide +kernel)) ?_
  refine ak (ok_dup_x1 (by decide +kernel)) ?_
  refine ak (ok_put (k := 3) ck9 kd1 (by decide) (fun _ _ _ => rfl) rfl rfl (by decide) tw394 (by decide +kernel)) ?_
  refine ak (ok_ireturn rfl (by decide +kernel)) ?_
  exact trivial
set_option maxRecDepth 1000000 in
theorem eF_road (x1 : Int32) (x2 : Int32) (x3 : Int32) (M : Mem) : run (cF_road) (fun _ _ _ _ => none) rtI 400 (seek (cF_road) 0) [aR (0, 0, 0), aI x1, aI x2, aI x3] [] M = mF_road x1 x2 x3 M := id rfl
theorem lF_road {E : EV} {l : Launch} {p : Program} {e : Env} {s : State} {m : MethodId} {args : Array Value} {below : List Frame} {meth : Method} {c : Code} (A : AllOK E l 3 "FreeLances" prog_1_method_3_code 4 (some .int) outI (cF_road)) (C : Cx E p s m args meth c "FreeLances" prog_1_method_3_code 4 (some .int)) : ∀ (x1 : Int32) (x2 : Int32) (x3 : Int32) (M : Mem) (res : (Int32 × Mem)), mF_road x1 x2 x3 M = some res → Wm E p l e 3 s m args below meth c 4 0 [aR (0, 0, 0), aI x1, aI x2, aI x3] [] M (outI res).1 (outI res).2 := by
  intro x1 x2 x3 M res h
  refine run_at C A rfl hrtI (n := 400) ((eF_road x1 x2 x3 M).trans h) ?_
  intro t als st M hk; cases hk
def dF_road {β : Type} : Den β := fun as M k => match as with
  | [.inr (.inr (.inl (al0, bl0, cl0))), .inl x1, .inl x2, .inl x3] => if al0 = 0 ∧ bl0 = 0 ∧ cl0 = 0 then (mF_road x1 x2 x3 M).bind fun q => k (aI q.1) q.2 else none
  | _ => none
theorem wF_road {E : EV} (hsd : E.2.2.2 = 0) (l : Launch) (x1 : Int32) (x2 : Int32) (x3 : Int32) (M : Mem) (q : (Int32 × Mem)) (hq : mF_road x1 x2 x3 M = some q) : Con E l 3 yF_road prog_1_method_3_code 4 (some .int) [aR (0, 0, 0), aI x1, aI x2, aI x3] M (outI q).1 (outI q).2 := by
  refine con_of iF_road (Nat.le_of_ble_eq_true rfl) ?_
  intro p e s m args below meth c C
  exact lF_road (oF_road hsd l) C x1 x2 x3 M _ hq
theorem kF_road {E : EV} (hsd : E.2.2.2 = 0) (l : Launch) {β : Type} : DenOK E l 3 yF_road prog_1_method_3_code 4 (some .int) true (dF_road (β := β)) := by
  intro as M k res h
  unfold dF_road at h
  split at h
  ·
    split at h
    · rename_i hc
      obtain ⟨rfl, rfl, rfl⟩ := hc
      obtain ⟨q, hq, hk⟩ := Option.bind_eq_some_iff.mp h
      exact ⟨aI q.1, q.2, hk, rfl, wF_road hsd l _ _ _ M q hq⟩
    · cases h
  · cases h
theorem qF_road {β : Type} : RecOK 0 (dF_road (β := β)) := by
  intro as M k res h
  unfold dF_road at h
  split at h
  ·
    split at h
    · rename_i hc
      obtain ⟨rfl, rfl, rfl⟩ := hc
      exact ⟨_, _, _, rfl⟩
    · cases h
  · cases h
/-! ===== FreeLances.far(II)I ===== -/
abbrev yF_far : MethodName := ⟨"FreeLances", "far", "(II)I"⟩
theorem iF_far : MI yF_far prog_1_method_4_code 4 (some .int) 2 := ⟨tw586, tw97, ⟨by decide, by decide⟩, by decide +kernel, by decide, by decide⟩
def cF_far : List (Ent (Int32 × Mem)) := [(false, 0, 1, sLdA 0),
  (false, 1, 1, sLdI 1),
  (false, 2, 3, sInv 2 true dF_isTown),
  (false, 5, 3, sIfEq 16),
  (false, 8, 1, sLdA 0),
  (false, 9, 1, sLdI 2),
  (false, 10, 3, sInv 2 true dF_isTown),
  (false, 13, 3, sIfNe 22),
  (false, 16, 1, sLdA 0),
  (false, 17, 1, sC 1),
  (false, 18, 3, sInv 2 true dF_finding),
  (false, 21, 1, sRetI),
  (false, 22, 1, sLdA 0),
  (false, 23, 3, sGet 0 (fun w i M => aR (1, 0, 0))),
  (false, 26, 1, sLdI 1),
  (false, 27, 1, sLdI 2),
  (false, 28, 3, sInv 3 true dW_way),
  (false, 31, 1, sStI 3),
  (false, 32, 1, sLdI 3),
  (false, 33, 2, sC 1000000),
  (false, 35, 3, sCmpLt 46),
  (false, 38, 1, sLdA 0),
  (false, 39, 1, sC 2),
  (false, 40, 3, sInv 2 true dF_finding),
  (false, 43, 3, sGoto 47),
  (false, 46, 1, sLdI 3),
  (false, 47, 1, sRetI)]
theorem oF_far {E : EV} (hsd : E.2.2.2 = 0) (l : Launch) : AllOK E l 3 "FreeLances" prog_1_method_4_code 4 (some .int) outI (cF_far) := by
  refine ak (ok_aload_n (k := 0) rfl (by decide +kernel)) ?_
  refine ak (ok_iload_n (k := 1) rfl (by decide +kernel)) ?_
  refine ak (ok_invV (r := 0) (kF_isTown hsd l) qF_isTown ck10 kd0 iF_isTown tw570 tw1 (by decide) tw568 (by decide +kernel)) ?_
  refine ak (ok_if_eq (off := 11) (by decide) (by decide +kernel)) ?_
  refine ak (ok_aload_n (k := 0) rfl (by decide +kernel)) ?_
  refine ak (ok_iload_n (k := 2) rfl (by decide +kernel)) ?_
  refine ak (ok_invV (r := 0) (kF_isTown hsd l) qF_isTown ck10 kd0 iF_isTown tw570 tw1 (by decide) tw568 (by decide +kernel)) ?_
  refine ak (ok_if_ne (off := 9) (by decide) (by decide +kernel)) ?_
  refine ak (ok_aload_n (k := 0) rfl (by decide +kernel)) ?_
  refine ak (ok_iconst (n := 1) (by decide) (by decide +kernel)) ?_
  refine ak (ok_invV (r := 0) (kF_finding hsd l) qF_finding ck10 kd0 iF_finding tw557 tw0 (by decide) tw555 (by decide +kernel)) ?_
  refine ak (ok_ireturn rfl (by decide +kernel)) ?_
  refine ak (ok_aload_n (k := 0) rfl (by decide +kernel)) ?_
  refine ak (ok_get (k := 0) ck10 kd0 (by decide) (fun _ _ _ => rfl) (vf_0_0 hsd) tw522 (by decide +kernel)) ?_
  refine ak (ok_iload_n (k := 1) rfl (by decide +kernel)) ?_
  refine ak (ok_iload_n (k := 2) rfl (by decide +kernel)) ?_
  refine ak (ok_invV (r := 1) (kW_way hsd l) qW_way ck9 kd1 iW_way tw577 tw578 (by decide) tw587 (by decide +kernel)) ?_
  refine ak (ok_istore_n (k := 3) rfl (by decide) (by decide +kernel)) ?_
  refine ak (ok_iload_n (k := 3) rfl (by decide +kernel)) ?_
  refine ak (ok_ldc tw588 (by decide +kernel)) ?_
  refine ak (ok_icmp_lt (off := 11) (by decide) (by decide +kernel)) ?_
  refine ak (ok_aload_n (k := 0) rfl (by decide +kernel)) ?_
  refine ak (ok_iconst (n := 2) (by decide) (by decide +kernel)) ?_
  refine ak (ok_invV (r := 0) (kF_finding hsd l) qF_finding ck10 kd0 iF_finding tw557 tw0 (by decide) tw555 (by decide +kernel)) ?_
  refine ak (ok_goto (off := 4) (by decide) (by decide +kernel)) ?_
  refine ak (ok_iload_n (k := 3) rfl (by decide +kernel)) ?_
  refine ak (ok_ireturn rfl (by decide +kernel)) ?_
  exact trivial
set_option maxRecDepth 1000000 in
theorem eF_far (x1 : Int32) (x2 : Int32) (M : Mem) : run (cF_far) (fun _ _ _ _ => none) rtI 400 (seek (cF_far) 0) [aR (0, 0, 0), aI x1, aI x2, aU] [] M = mF_far x1 x2 M := id rfl
theorem lF_far {E : EV} {l : Launch} {p : Program} {e : Env} {s : State} {m : MethodId} {args : Array Value} {below : List Frame} {meth : Method} {c : Code} (A : AllOK E l 3 "FreeLances" prog_1_method_4_code 4 (some .int) outI (cF_far)) (C : Cx E p s m args meth c "FreeLances" prog_1_method_4_code 4 (some .int)) : ∀ (x1 : Int32) (x2 : Int32) (M : Mem) (res : (Int32 × Mem)), mF_far x1 x2 M = some res → Wm E p l e 3 s m args below meth c 4 0 [aR (0, 0, 0), aI x1, aI x2, aU] [] M (outI res).1 (outI res).2 := by
  intro x1 x2 M res h
  refine run_at C A rfl hrtI (n := 400) ((eF_far x1 x2 M).trans h) ?_
  intro t als st M hk; cases hk
def dF_far {β : Type} : Den β := fun as M k => match as with
  | [.inr (.inr (.inl (al0, bl0, cl0))), .inl x1, .inl x2] => if al0 = 0 ∧ bl0 = 0 ∧ cl0 = 0 then (mF_far x1 x2 M).bind fun q => k (aI q.1) q.2 else none
  | _ => none
theorem wF_far {E : EV} (hsd : E.2.2.2 = 0) (l : Launch) (x1 : Int32) (x2 : Int32) (M : Mem) (q : (Int32 × Mem)) (hq : mF_far x1 x2 M = some q) : Con E l 3 yF_far prog_1_method_4_code 4 (some .int) [aR (0, 0, 0), aI x1, aI x2] M (outI q).1 (outI q).2 := by
  refine con_of iF_far (Nat.le_of_ble_eq_true rfl) ?_
  intro p e s m args below meth c C
  exact lF_far (oF_far hsd l) C x1 x2 M _ hq
theorem kF_far {E : EV} (hsd : E.2.2.2 = 0) (l : Launch) {β : Type} : DenOK E l 3 yF_far prog_1_method_4_code 4 (some .int) true (dF_far (β := β)) := by
  intro as M k res h
  unfold dF_far at h
  split at h
  ·
    split at h
    · rename_i hc
      obtain ⟨rfl, rfl, rfl⟩ := hc
      obtain ⟨q, hq, hk⟩ := Option.bind_eq_some_iff.mp h
      exact ⟨aI q.1, q.2, hk, rfl, wF_far hsd l _ _ M q hq⟩
    · cases h
  · cases h
theorem qF_far {β : Type} : RecOK 0 (dF_far (β := β)) := by
  intro as M k res h
  unfold dF_far at h
  split at h
  ·
    split at h
    · rename_i hc
      obtain ⟨rfl, rfl, rfl⟩ := hc
      exact ⟨_, _, _, rfl⟩
    · cases h
  · cases h
/-! ===== FreeLances$World.lyingIn(I)I ===== -/
abbrev yW_lyingIn : MethodName := ⟨"FreeLances$World", "lyingIn", "(I)I"⟩
theorem iW_lyingIn : MI yW_lyingIn prog_11_method_5_code 4 (some .int) 1 := ⟨tw596, tw98, ⟨by decide, by decide⟩, by decide +kernel, by decide, by decide⟩
def cW_lyingIn : List (Ent (Int32 × Mem)) := [(false, 0, 1, sC 0),
  (false, 1, 1, sStI 2),
  (false, 2, 1, sC 0),
  (false, 3, 1, sStI 3),
  (true, 4, 1, sLdI 3),
  (false, 5, 1, sLdA 0),
  (false, 6, 3, sGet 1 (fun w i M => aI (M 1 w i 6))),
  (false, 9, 3, sCmpGe 37),
  (false, 12, 1, sLdA 0),
  (false, 13, 3, sGet 1 (fun w i M => aR (5, w, 0))),
  (false, 16, 1, sLdI 3),
  (false, 17, 1, sAald 5 5 6),
  (false, 18, 3, sGet 6 (fun w i M => aI (M 6 w i 3))),
  (false, 21, 1, sLdI 1),
  (false, 22, 3, sCmpNe 31),
  (false, 25, 1, sLdI 2),
  (false, 26, 1, sC 1),
  (false, 27, 1, sLdI 3),
  (false, 28, 1, sBin (fun x y => x <<< (y &&& 31))),
  (false, 29, 1, sBin (fun x y => x ||| y)),
  (false, 30, 1, sStI 2),
  (false, 31, 3, sInc 3 1),
  (false, 34, 3, sGoto 4),
  (false, 37, 1, sLdI 2),
  (false, 38, 1, sRetI)]
theorem oW_lyingIn {E : EV} (hsd : E.2.2.2 = 0) (l : Launch) : AllOK E l 1 "FreeLances$World" prog_11_method_5_code 4 (some .int) outI (cW_lyingIn) := by
  refine ak (ok_iconst (n := 0) (by decide) (by decide +kernel)) ?_
  refine ak (ok_istore_n (k := 2) rfl (by decide) (by decide +kernel)) ?_
  refine ak (ok_iconst (n := 0) (by decide) (by decide +kernel)) ?_
  refine ak (ok_istore_n (k := 3) rfl (by decide) (by decide +kernel)) ?_
  refine ak (ok_iload_n (k := 3) rfl (by decide +kernel)) ?_
  refine ak (ok_aload_n (k := 0) rfl (by decide +kernel)) ?_
  refine ak (ok_get (k := 6) ck9 kd1 (by decide) (fun _ _ _ => rfl) (fun _ _ _ _ _ => trivial) tw399 (by decide +kernel)) ?_
  refine ak (ok_icmp_ge (off := 28) (by decide) (by decide +kernel)) ?_
  refine ak (ok_aload_n (k := 0) rfl (by decide +kernel)) ?_
  refine ak (ok_get (k := 5) ck9 kd1 (by decide) (fun _ _ _ => rfl) (vf_1_5 hsd) tw396 (by decide +kernel)) ?_
  refine ak (ok_iload_n (k := 3) rfl (by decide +kernel)) ?_
  refine ak (ok_aald (t0 := 3) (C := RX1) kd5 (by decide) rfl (vr_5 hsd) (by decide +kernel)) ?_
  refine ak (ok_get (k := 3) ck1 kd6 (by decide) (fun _ _ _ => rfl) (fun _ _ _ _ _ => trivial) tw208 (by decide +kernel)) ?_
  refine ak (ok_iload_n (k := 1) rfl (by decide +kernel)) ?_
  refine ak (ok_icmp_ne (off := 9) (by decide) (by decide +kernel)) ?_
  refine ak (ok_iload_n (k := 2) rfl (by decide +kernel)) ?_
  refine ak (ok_iconst (n := 1) (by decide) (by decide +kernel)) ?_
  refine ak (ok_iload_n (k := 3) rfl (by decide +kernel)) ?_
  refine ak (ok_ishl (by decide +kernel)) ?_
  refine ak (ok_ior (by decide +kernel)) ?_
  refine ak (ok_istore_n (k := 2) rfl (by decide) (by decide +kernel)) ?_
  refine ak (ok_iinc (n := 1) (by decide) (by decide) (by decide +kernel)) ?_
  refine ak (ok_goto (off := (-30)) (by decide) (by decide +kernel)) ?_
  refine ak (ok_iload_n (k := 2) rfl (by decide +kernel)) ?_
  refine ak (ok_ireturn rfl (by decide +kernel)) ?_
  exact trivial
def KW_lyingIn_4 (j4 : Nat → Int32 → Int32 → Int32 → Mem → Option (Int32 × Mem)) : Jm (Int32 × Mem) := fun t als st M =>
  if t = 4 then (match als, st with
  | [.inr (.inr (.inl (al0, w0, cl0))), .inl x1, .inl x2, .inl x3], [] => if al0 = 1 ∧ cl0 = 0 then j4 w0 x1 x2 x3 M else none
  | _, _ => none) else
  none
set_option maxRecDepth 1000000 in
theorem eW_lyingIn_4 (j4 : Nat → Int32 → Int32 → Int32 → Mem → Option (Int32 × Mem)) (w0 : Nat) (x1 : Int32) (x2 : Int32) (x3 : Int32) (M : Mem) : run (cW_lyingIn) (KW_lyingIn_4 j4) rtI 400 (seek (cW_lyingIn) 4) [aR (1, w0, 0), aI x1, aI x2, aI x3] [] M = mW_lyingIn_4b j4 w0 x1 x2 x3 M := id rfl
theorem lW_lyingIn_4 {E : EV} {l : Launch} {p : Program} {e : Env} {s : State} {m : MethodId} {args : Array Value} {below : List Frame} {meth : Method} {c : Code} (A : AllOK E l 1 "FreeLances$World" prog_11_method_5_code 4 (some .int) outI (cW_lyingIn)) (C : Cx E p s m args meth c "FreeLances$World" prog_11_method_5_code 4 (some .int)) : ∀ (n : Nat), ∀ (w0 : Nat) (x1 : Int32) (x2 : Int32) (x3 : Int32) (M : Mem) (res : (Int32 × Mem)), mW_lyingIn_4 n w0 x1 x2 x3 M = some res → Wm E p l e 1 s m args below meth c 4 4 [aR (1, w0, 0), aI x1, aI x2, aI x3] [] M (outI res).1 (outI res).2 := by
  intro n
  induction n with
  | zero => intro _ _ _ _ M res h; cases h
  | succ n ih =>
    intro w0 x1 x2 x3 M res h
    refine run_at C A rfl hrtI (n := 400) ((eW_lyingIn_4 (mW_lyingIn_4 n) w0 x1 x2 x3 M).trans h) ?_
    intro t als st M hk
    unfold KW_lyingIn_4 at hk
    split at hk
    · rename_i ht
      subst ht
      split at hk
      · split at hk
        · rename_i hc
          obtain ⟨rfl, rfl⟩ := hc
          exact ih _ _ _ _ _ _ hk
        · cases hk
      · cases hk
    cases hk
def KW_lyingIn (j4 : Nat → Int32 → Int32 → Int32 → Mem → Option (Int32 × Mem)) : Jm (Int32 × Mem) := fun t als st M =>
  if t = 4 then (match als, st with
  | [.inr (.inr (.inl (al0, w0, cl0))), .inl x1, .inl x2, .inl x3], [] => if al0 = 1 ∧ cl0 = 0 then j4 w0 x1 x2 x3 M else none
  | _, _ => none) else
  none
set_option maxRecDepth 1000000 in
theorem eW_lyingIn (j4 : Nat → Int32 → Int32 → Int32 → Mem → Option (Int32 × Mem)) (w0 : Nat) (x1 : Int32) (M : Mem) : run (cW_lyingIn) (KW_lyingIn j4) rtI 400 (seek (cW_lyingIn) 0) [aR (1, w0, 0), aI x1, aU, aU] [] M = mW_lyingInb j4 w0 x1 M := id rfl
theorem lW_lyingIn {E : EV} {l : Launch} {p : Program} {e : Env} {s : State} {m : MethodId} {args : Array Value} {below : List Frame} {meth : Method} {c : Code} (A : AllOK E l 1 "FreeLances$World" prog_11_method_5_code 4 (some .int) outI (cW_lyingIn)) (C : Cx E p s m args meth c "FreeLances$World" prog_11_method_5_code 4 (some .int)) : ∀ (w0 : Nat) (x1 : Int32) (M : Mem) (res : (Int32 × Mem)), mW_lyingIn w0 x1 M = some res → Wm E p l e 1 s m args below meth c 4 0 [aR (1, w0, 0), aI x1, aU, aU] [] M (outI res).1 (outI res).2 := by
  intro w0 x1 M res h
  refine run_at C A rfl hrtI (n := 400) ((eW_lyingIn (mW_lyingIn_4 fuel) w0 x1 M).trans h) ?_
  intro t als st M hk
  unfold KW_lyingIn at hk
  split at hk
  · rename_i ht
    subst ht
    split at hk
    · split at hk
      · rename_i hc
        obtain ⟨rfl, rfl⟩ := hc
        exact lW_lyingIn_4 A C _ _ _ _ _ _ _ hk
      · cases hk
    · cases hk
  cases hk
def dW_lyingIn {β : Type} : Den β := fun as M k => match as with
  | [.inr (.inr (.inl (al0, w0, cl0))), .inl x1] => if al0 = 1 ∧ cl0 = 0 then (mW_lyingIn w0 x1 M).bind fun q => k (aI q.1) q.2 else none
  | _ => none
theorem wW_lyingIn {E : EV} (hsd : E.2.2.2 = 0) (l : Launch) (w0 : Nat) (x1 : Int32) (M : Mem) (q : (Int32 × Mem)) (hq : mW_lyingIn w0 x1 M = some q) : Con E l 1 yW_lyingIn prog_11_method_5_code 4 (some .int) [aR (1, w0, 0), aI x1] M (outI q).1 (outI q).2 := by
  refine con_of iW_lyingIn (Nat.le_of_ble_eq_true rfl) ?_
  intro p e s m args below meth c C
  exact lW_lyingIn (oW_lyingIn hsd l) C w0 x1 M _ hq
theorem kW_lyingIn {E : EV} (hsd : E.2.2.2 = 0) (l : Launch) {β : Type} : DenOK E l 1 yW_lyingIn prog_11_method_5_code 4 (some .int) true (dW_lyingIn (β := β)) := by
  intro as M k res h
  unfold dW_lyingIn at h
  split at h
  ·
    split at h
    · rename_i hc
      obtain ⟨rfl, rfl⟩ := hc
      obtain ⟨q, hq, hk⟩ := Option.bind_eq_some_iff.mp h
      exact ⟨aI q.1, q.2, hk, rfl, wW_lyingIn hsd l _ _ M q hq⟩
    · cases h
  · cases h
theorem qW_lyingIn {β : Type} : RecOK 1 (dW_lyingIn (β := β)) := by
  intro as M k res h
  unfold dW_lyingIn at h
  split at h
  ·
    split at h
    · rename_i hc
      obtain ⟨rfl, rfl⟩ := hc
      exact ⟨_, _, _, rfl⟩
    · cases h
  · cases h
/-! ===== FreeLances.townIs(II)I ===== -/
abbrev yF_townIs : MethodName := ⟨"FreeLances", "townIs", "(II)I"⟩
theorem iF_townIs : MI yF_townIs prog_1_method_5_code 4 (some .int) 2 := ⟨tw592, tw97, ⟨by decide, by decide⟩, by decide +kernel, by decide, by decide⟩
def cF_townIs : List (Ent (Int32 × Mem)) := [(false, 0, 1, sLdA 0),
  (false, 1, 1, sLdI 1),
  (false, 2, 3, sInv 2 true dF_isTown),
  (false, 5, 3, sIfNe 14),
  (false, 8, 1, sLdA 0),
  (false, 9, 1, sC 1),
  (false, 10, 3, sInv 2 true dF_finding),
  (false, 13, 1, sRetI),
  (false, 14, 1, sLdA 0),
  (false, 15, 3, sGet 0 (fun w i M => aR (1, 0, 0))),
  (false, 18, 3, sGet 1 (fun w i M => aR (2, w, 0))),
  (false, 21, 1, sLdI 1),
  (false, 22, 1, sAald 2 8 3),
  (false, 23, 1, sStA 3),
  (false, 24, 1, sLdI 2),
  (false, 25, 35, sSw 89 [(0, 60), (1, 65), (2, 70), (3, 75), (4, 80)]),
  (false, 60, 1, sLdA 3),
  (false, 61, 3, sGet 3 (fun w i M => aI (M 3 w i 0))),
  (false, 64, 1, sRetI),
  (false, 65, 1, sLdA 3),
  (false, 66, 3, sGet 3 (fun w i M => aI (M 3 w i 1))),
  (false, 69, 1, sRetI),
  (false, 70, 1, sLdA 3),
  (false, 71, 3, sGet 3 (fun w i M => aI (M 3 w i 2))),
  (false, 74, 1, sRetI),
  (false, 75, 1, sLdA 3),
  (false, 76, 3, sGet 3 (fun w i M => aI (M 3 w i 3))),
  (false, 79, 1, sRetI),
  (false, 80, 1, sLdA 0),
  (false, 81, 3, sGet 0 (fun w i M => aR (1, 0, 0))),
  (false, 84, 1, sLdI 1),
  (false, 85, 3, sInv 2 true dW_lyingIn),
  (false, 88, 1, sRetI),
  (false, 89, 1, sLdA 0),
  (false, 90, 1, sC 1),
  (false, 91, 3, sInv 2 true dF_finding),
  (false, 94, 1, sRetI)]
theorem oF_townIs {E : EV} (hsd : E.2.2.2 = 0) (l : Launch) : AllOK E l 3 "FreeLances" prog_1_method_5_code 4 (some .int) outI (cF_townIs) := by
  refine ak (ok_aload_n (k := 0) rfl (by decide +kernel)) ?_
  refine ak (ok_iload_n (k := 1) rfl (by decide +kernel)) ?_
  refine ak (ok_invV (r := 0) (kF_isTown hsd l) qF_isTown ck10 kd0 iF_isTown tw570 tw1 (by decide) tw568 (by decide +kernel)) ?_
  refine ak (ok_if_ne (off := 9) (by decide) (by decide +kernel)) ?_
  refine ak (ok_aload_n (k := 0) rfl (by decide +kernel)) ?_
  refine ak (ok_iconst (n := 1) (by decide) (by decide +kernel)) ?_
  refine ak (ok_invV (r := 0) (kF_finding hsd l) qF_finding ck10 kd0 iF_finding tw557 tw0 (by decide) tw555 (by decide +kernel)) ?_
  refine ak (ok_ireturn rfl (by decide +kernel)) ?_
  refine ak (ok_aload_n (k := 0) rfl (by decide +kernel)) ?_
  refine ak (ok_get (k := 0) ck10 kd0 (by decide) (fun _ _ _ => rfl) (vf_0_0 hsd) tw522 (by decide +kernel)) ?_
  refine ak (ok_get (k := 1) ck9 kd1 (by decide) (fun _ _ _ => rfl) (vf_1_1 hsd) tw389 (by decide +kernel)) ?_
  refine ak (ok_iload_n (k := 1) rfl (by decide +kernel)) ?_
  refine ak (ok_aald (t0 := 2) (C := RX7) kd2 (by decide) rfl (vr_2 hsd) (by decide +kernel)) ?_
  refine ak (ok_astore_n (k := 3) rfl (by decide) (by decide +kernel)) ?_
  refine ak (ok_iload_n (k := 2) rfl (by decide +kernel)) ?_
  refine ak (ok_table (df := 64) (lo := 0) (hi := 4) (offs := #[35, 40, 45, 50, 55]) (by decide) (by decide) (by decide) (by decide +kernel)) ?_
  refine ak (ok_aload_n (k := 3) rfl (by decide +kernel)) ?_
  refine ak (ok_get (k := 0) ck7 kd3 (by decide) (fun _ _ _ => rfl) (fun _ _ _ _ _ => trivial) tw175 (by decide +kernel)) ?_
  refine ak (ok_ireturn rfl (by decide +kernel)) ?_
  refine ak (ok_aload_n (k := 3) rfl (by decide +kernel)) ?_
  refine ak (ok_get (k := 1) ck7 kd3 (by decide) (fun _ _ _ => rfl) (fun _ _ _ _ _ => trivial) tw178 (by decide +kernel)) ?_
  refine ak (ok_ireturn rfl (by decide +kernel)) ?_
  refine ak (ok_aload_n (k := 3) rfl (by decide +kernel)) ?_
  refine ak (ok_get (k := 2) ck7 kd3 (by decide) (fun _ _ _ => rfl) (fun _ _ _ _ _ => trivial) tw181 (by decide +kernel)) ?_
  refine ak (ok_ireturn rfl (by decide +kernel)) ?_
  refine ak (ok_aload_n (k := 3) rfl (by decide +kernel)) ?_
  refine ak (ok_get (k := 3) ck7 kd3 (by decide) (fun _ _ _ => rfl) (fun _ _ _ _ _ => trivial) tw183 (by decide +kernel)) ?_
  refine ak (ok_ireturn rfl (by decide +kernel)) ?_
  refine ak (ok_aload_n (k := 0) rfl (by decide +kernel)) ?_
  refine ak (ok_get (k := 0) ck10 kd0 (by decide) (fun _ _ _ => rfl) (vf_0_0 hsd) tw522 (by decide +kernel)) ?_
  refine ak (ok_iload_n (k := 1) rfl (by decide +kernel)) ?_
  refine ak (ok_invV (r := 1) (kW_lyingIn hsd l) qW_lyingIn ck9 kd1 iW_lyingIn tw594 tw595 (by decide) tw593 (by decide +kernel)) ?_
  refine ak (ok_ireturn rfl (by decide +kernel)) ?_
  refine ak (ok_aload_n (k := 0) rfl (by decide +kernel)) ?_
  refine ak (ok_iconst (n := 1) (by decide) (by decide +kernel)) ?_
  refine ak (ok_invV (r := 0) (kF_finding hsd l) qF_finding ck10 kd0 iF_finding tw557 tw0 (by decide) tw555 (by decide +kernel)) ?_
  refine ak (ok_ireturn rfl (by decide +kernel)) ?_
  exact trivial
set_option maxRecDepth 1000000 in
theorem eF_townIs (x1 : Int32) (x2 : Int32) (M : Mem) : run (cF_townIs) (fun _ _ _ _ => none) rtI 400 (seek (cF_townIs) 0) [aR (0, 0, 0), aI x1, aI x2, aU] [] M = mF_townIs x1 x2 M := id rfl
theorem lF_townIs {E : EV} {l : Launch} {p : Program} {e : Env} {s : State} {m : MethodId} {args : Array Value} {below : List Frame} {meth : Method} {c : Code} (A : AllOK E l 3 "FreeLances" prog_1_method_5_code 4 (some .int) outI (cF_townIs)) (C : Cx E p s m args meth c "FreeLances" prog_1_method_5_code 4 (some .int)) : ∀ (x1 : Int32) (x2 : Int32) (M : Mem) (res : (Int32 × Mem)), mF_townIs x1 x2 M = some res → Wm E p l e 3 s m args below meth c 4 0 [aR (0, 0, 0), aI x1, aI x2, aU] [] M (outI res).1 (outI res).2 := by
  intro x1 x2 M res h
  refine run_at C A rfl hrtI (n := 400) ((eF_townIs x1 x2 M).trans h) ?_
  intro t als st M hk; cases hk
def dF_townIs {β : Type} : Den β := fun as M k => match as with
  | [.inr (.inr (.inl (al0, bl0, cl0))), .inl x1, .inl x2] => if al0 = 0 ∧ bl0 = 0 ∧ cl0 = 0 then (mF_townIs x1 x2 M).bind fun q => k (aI q.1) q.2 else none
  | _ => none
theorem wF_townIs {E : EV} (hsd : E.2.2.2 = 0) (l : Launch) (x1 : Int32) (x2 : Int32) (M : Mem) (q : (Int32 × Mem)) (hq : mF_townIs x1 x2 M = some q) : Con E l 3 yF_townIs prog_1_method_5_code 4 (some .int) [aR (0, 0, 0), aI x1, aI x2] M (outI q).1 (outI q).2 := by
  refine con_of iF_townIs (Nat.le_of_ble_eq_true rfl) ?_
  intro p e s m args below meth c C
  exact lF_townIs (oF_townIs hsd l) C x1 x2 M _ hq
theorem kF_townIs {E : EV} (hsd : E.2.2.2 = 0) (l : Launch) {β : Type} : DenOK E l 3 yF_townIs prog_1_method_5_code 4 (some .int) true (dF_townIs (β := β)) := by
  intro as M k res h
  unfold dF_townIs at h
  split at h
  ·
    split at h
    · rename_i hc
      obtain ⟨rfl, rfl, rfl⟩ := hc
      obtain ⟨q, hq, hk⟩ := Option.bind_eq_some_iff.mp h
      exact ⟨aI q.1, q.2, hk, rfl, wF_townIs hsd l _ _ M q hq⟩
    · cases h
  · cases h
theorem qF_townIs {β : Type} : RecOK 0 (dF_townIs (β := β)) := by
  intro as M k res h
  unfold dF_townIs at h
  split at h
  ·
    split at h
    · rename_i hc
      obtain ⟨rfl, rfl, rfl⟩ := hc
      exact ⟨_, _, _, rfl⟩
    · cases h
  · cases h
/-! ===== FreeLances.wall(III)I ===== -/
abbrev yF_wall : MethodName := ⟨"FreeLances", "wall", "(III)I"⟩
theorem iF_wall : MI yF_wall prog_1_method_6_code 4 (some .int) 3 := ⟨tw600, tw97, ⟨by decide, by decide⟩, by decide +kernel, by decide, by decide⟩
def cF_wall : List (Ent (Int32 × Mem)) := [(false, 0, 1, sLdA 0),
  (false, 1, 1, sLdI 1),
  (false, 2, 3, sInv 2 true dF_isTown),
  (false, 5, 3, sIfEq 29),
  (false, 8, 1, sLdI 2),
  (false, 9, 1, sC 0),
  (false, 10, 3, sC 999),
  (false, 13, 3, sInv 3 true dF_within),
  (false, 16, 3, sIfEq 29),
  (false, 19, 1, sLdI 3),
  (false, 20, 1, sC 0),
  (false, 21, 2, sC 99),
  (false, 23, 3, sInv 3 true dF_within),
  (false, 26, 3, sIfNe 35),
  (false, 29, 1, sLdA 0),
  (false, 30, 1, sC 1),
  (false, 31, 3, sInv 2 true dF_finding),
  (false, 34, 1, sRetI),
  (false, 35, 1, sLdA 0),
  (false, 36, 3, sGet 0 (fun w i M => aR (1, 0, 0))),
  (false, 39, 3, sGet 1 (fun w i M => aR (2, w, 0))),
  (false, 42, 1, sLdI 1),
  (false, 43, 1, sAald 2 8 3),
  (false, 44, 1, sLdI 2),
  (false, 45, 3, sPut 3 2),
  (false, 48, 1, sLdA 0),
  (false, 49, 3, sGet 0 (fun w i M => aR (1, 0, 0))),
  (false, 52, 3, sGet 1 (fun w i M => aR (2, w, 0))),
  (false, 55, 1, sLdI 1),
  (false, 56, 1, sAald 2 8 3),
  (false, 57, 1, sLdI 3),
  (false, 58, 3, sPut 3 3),
  (false, 61, 1, sC 1),
  (false, 62, 1, sRetI)]
theorem oF_wall {E : EV} (hsd : E.2.2.2 = 0) (l : Launch) : AllOK E l 3 "FreeLances" prog_1_method_6_code 4 (some .int) outI (cF_wall) := by
  refine ak (ok_aload_n (k := 0) rfl (by decide +kernel)) ?_
  refine ak (ok_iload_n (k := 1) rfl (by decide +kernel)) ?_
  refine ak (ok_invV (r := 0) (kF_isTown hsd l) qF_isTown ck10 kd0 iF_isTown tw570 tw1 (by decide) tw568 (by decide +kernel)) ?_
  refine ak (ok_if_eq (off := 24) (by decide) (by decide +kernel)) ?_
  refine ak (ok_iload_n (k := 2) rfl (by decide +kernel)) ?_
  refine ak (ok_iconst (n := 0) (by decide) (by decide +kernel)) ?_
  refine ak (ok_sipush (n := 999) (by decide) (by decide +kernel)) ?_
  refine ak (ok_invS (kF_within hsd l) iF_within tw553 (by decide) tw552 (by decide +kernel)) ?_
  refine ak (ok_if_eq (off := 13) (by decide) (by decide +kernel)) ?_
  refine ak (ok_iload_n (k := 3) rfl (by decide +kernel)) ?_
  refine ak (ok_iconst (n := 0) (by decide) (by decide +kernel)) ?_
  refine ak (ok_bipush (n := 99) (by decide) (by decide +kernel)) ?_
  refine ak (ok_invS (kF_within hsd l) iF_within tw553 (by decide) tw552 (by decide +kernel)) ?_
  refine ak (ok_if_ne (off := 9) (by decide) (by decide +kernel)) ?_
  refine ak (ok_aload_n (k := 0) rfl (by decide +kernel)) ?_
  refine ak (ok_iconst (n := 1) (by decide) (by decide +kernel)) ?_
  refine ak (ok_invV (r := 0) (kF_finding hsd l) qF_finding ck10 kd0 iF_finding tw557 tw0 (by decide) tw555 (by decide +kernel)) ?_
  refine ak (ok_ireturn rfl (by decide +kernel)) ?_
  refine ak (ok_aload_n (k := 0) rfl (by decide +kernel)) ?_
  refine ak (ok_get (k := 0) ck10 kd0 (by decide) (fun _ _ _ => rfl) (vf_0_0 hsd) tw522 (by decide +kernel)) ?_
  refine ak (ok_get (k := 1) ck9 kd1 (by decide) (fun _ _ _ => rfl) (vf_1_1 hsd) tw389 (by decide +kernel)) ?_
  refine ak (ok_iload_n (k := 1) rfl (by decide +kernel)) ?_
  refine ak (ok_aald (t0 := 2) (C := RX7) kd2 (by decide) rfl (vr_2 hsd) (by decide +kernel)) ?_
  refine ak (ok_iload_n (k := 2) rfl (by decide +kernel)) ?_
  refine ak (ok_put (k := 2) ck7 kd3 (by decide) (fun _ _ _ => rfl) rfl rfl (by decide) tw181 (by decide +kernel)) ?_
  refine ak (ok_aload_n (k := 0) rfl (by decide +kernel)) ?_
  refine ak (ok_get (k := 0) ck10 kd0 (by decide) (fun _ _ _ => rfl) (vf_0_0 hsd) tw522 (by decide +kernel)) ?_
  refine ak (ok_get (k := 1) ck9 kd1 (by decide) (fun _ _ _ => rfl) (vf_1_1 hsd) tw389 (by decide +kernel)) ?_
  refine ak (ok_iload_n (k := 1) rfl (by decide +kernel)) ?_
  refine ak (ok_aald (t0 := 2) (C := RX7) kd2 (by decide) rfl (vr_2 hsd) (by decide +kernel)) ?_
  refine ak (ok_iload_n (k := 3) rfl (by decide +kernel)) ?_
  refine ak (ok_put (k := 3) ck7 kd3 (by decide) (fun _ _ _ => rfl) rfl rfl (by decide) tw183 (by decide +kernel)) ?_
  refine ak (ok_iconst (n := 1) (by decide) (by decide +kernel)) ?_
  refine ak (ok_ireturn rfl (by decide +kernel)) ?_
  exact trivial
set_option maxRecDepth 1000000 in
theorem eF_wall (x1 : Int32) (x2 : Int32) (x3 : Int32) (M : Mem) : run (cF_wall) (fun _ _ _ _ => none) rtI 400 (seek (cF_wall) 0) [aR (0, 0, 0), aI x1, aI x2, aI x3] [] M = mF_wall x1 x2 x3 M := id rfl
theorem lF_wall {E : EV} {l : Launch} {p : Program} {e : Env} {s : State} {m : MethodId} {args : Array Value} {below : List Frame} {meth : Method} {c : Code} (A : AllOK E l 3 "FreeLances" prog_1_method_6_code 4 (some .int) outI (cF_wall)) (C : Cx E p s m args meth c "FreeLances" prog_1_method_6_code 4 (some .int)) : ∀ (x1 : Int32) (x2 : Int32) (x3 : Int32) (M : Mem) (res : (Int32 × Mem)), mF_wall x1 x2 x3 M = some res → Wm E p l e 3 s m args below meth c 4 0 [aR (0, 0, 0), aI x1, aI x2, aI x3] [] M (outI res).1 (outI res).2 := by
  intro x1 x2 x3 M res h
  refine run_at C A rfl hrtI (n := 400) ((eF_wall x1 x2 x3 M).trans h) ?_
  intro t als st M hk; cases hk
def dF_wall {β : Type} : Den β := fun as M k => match as with
  | [.inr (.inr (.inl (al0, bl0, cl0))), .inl x1, .inl x2, .inl x3] => if al0 = 0 ∧ bl0 = 0 ∧ cl0 = 0 then (mF_wall x1 x2 x3 M).bind fun q => k (aI q.1) q.2 else none
  | _ => none
theorem wF_wall {E : EV} (hsd : E.2.2.2 = 0) (l : Launch) (x1 : Int32) (x2 : Int32) (x3 : Int32) (M : Mem) (q : (Int32 × Mem)) (hq : mF_wall x1 x2 x3 M = some q) : Con E l 3 yF_wall prog_1_method_6_code 4 (some .int) [aR (0, 0, 0), aI x1, aI x2, aI x3] M (outI q).1 (outI q).2 := by
  refine con_of iF_wall (Nat.le_of_ble_eq_true rfl) ?_
  intro p e s m args below meth c C
  exact lF_wall (oF_wall hsd l) C x1 x2 x3 M _ hq
theorem kF_wall {E : EV} (hsd : E.2.2.2 = 0) (l : Launch) {β : Type} : DenOK E l 3 yF_wall prog_1_method_6_code 4 (some .int) true (dF_wall (β := β)) := by
  intro as M k res h
  unfold dF_wall at h
  split at h
  ·
    split at h
    · rename_i hc
      obtain ⟨rfl, rfl, rfl⟩ := hc
      obtain ⟨q, hq, hk⟩ := Option.bind_eq_some_iff.mp h
      exact ⟨aI q.1, q.2, hk, rfl, wF_wall hsd l _ _ _ M q hq⟩
    · cases h
  · cases h
theorem qF_wall {β : Type} : RecOK 0 (dF_wall (β := β)) := by
  intro as M k res h
  unfold dF_wall at h
  split at h
  ·
    split at h
    · rename_i hc
      obtain ⟨rfl, rfl, rfl⟩ := hc
      exact ⟨_, _, _, rfl⟩
    · cases h
  · cases h
/-! ===== FreeLances.harvest(II)I ===== -/
abbrev yF_harvest : MethodName := ⟨"FreeLances", "harvest", "(II)I"⟩
theorem iF_harvest : MI yF_harvest prog_1_method_7_code 4 (some .int) 2 := ⟨tw604, tw97, ⟨by decide, by decide⟩, by decide +kernel, by decide, by decide⟩
def cF_harvest : List (Ent (Int32 × Mem)) := [(false, 0, 1, sLdA 0),
  (false, 1, 1, sLdI 1),
  (false, 2, 3, sInv 2 true dF_isTown),
  (false, 5, 3, sIfEq 19),
  (false, 8, 1, sLdI 2),
  (false, 9, 1, sC 1),
  (false, 10, 3, sC 9999),
  (false, 13, 3, sInv 3 true dF_within),
  (false, 16, 3, sIfNe 25),
  (false, 19, 1, sLdA 0),
  (false, 20, 1, sC 1),
  (false, 21, 3, sInv 2 true dF_finding),
  (false, 24, 1, sRetI),
  (false, 25, 1, sLdA 0),
  (false, 26, 3, sGet 0 (fun w i M => aR (1, 0, 0))),
  (false, 29, 3, sGet 1 (fun w i M => aR (2, w, 0))),
  (false, 32, 1, sLdI 1),
  (false, 33, 1, sAald 2 8 3),
  (false, 34, 1, sStA 3),
  (false, 35, 1, sLdA 3),
  (false, 36, 3, sGet 3 (fun w i M => aI (M 3 w i 1))),
  (false, 39, 1, sLdI 2),
  (false, 40, 1, sBin (fun x y => x + y)),
  (false, 41, 2, sC 999999),
  (false, 43, 3, sCmpLe 52),
  (false, 46, 1, sLdA 0),
  (false, 47, 1, sC 4),
  (false, 48, 3, sInv 2 true dF_finding),
  (false, 51, 1, sRetI),
  (false, 52, 1, sLdA 3),
  (false, 53, 1, sDup),
  (false, 54, 3, sGet 3 (fun w i M => aI (M 3 w i 1))),
  (false, 57, 1, sLdI 2),
  (false, 58, 1, sBin (fun x y => x + y)),
  (false, 59, 3, sPut 3 1),
  (false, 62, 1, sLdA 3),
  (false, 63, 3, sGet 3 (fun w i M => aI (M 3 w i 1))),
  (false, 66, 1, sRetI)]
theorem oF_harvest {E : EV} (hsd : E.2.2.2 = 0) (l : Launch) : AllOK E l 3 "FreeLances" prog_1_method_7_code 4 (some .int) outI (cF_harvest) := by
  refine ak (ok_aload_n (k := 0) rfl (by decide +kernel)) ?_
  refine ak (ok_iload_n (k := 1) rfl (by decide +kernel)) ?_
  refine ak (ok_invV (r := 0) (kF_isTown hsd l) qF_isTown ck10 kd0 iF_isTown tw570 tw1 (by decide) tw568 (by decide +kernel)) ?_
  refine ak (ok_if_eq (off := 14) (by decide) (by decide +kernel)) ?_
  refine ak (ok_iload_n (k := 2) rfl (by decide +kernel)) ?_
  refine ak (ok_iconst (n := 1) (by decide) (by decide +kernel)) ?_
  refine ak (ok_sipush (n := 9999) (by decide) (by decide +kernel)) ?_
  refine ak (ok_invS (kF_within hsd l) iF_within tw553 (by decide) tw552 (by decide +kernel)) ?_
  refine ak (ok_if_ne (off := 9) (by decide) (by decide +kernel)) ?_
  refine ak (ok_aload_n (k := 0) rfl (by decide +kernel)) ?_
  refine ak (ok_iconst (n := 1) (by decide) (by decide +kernel)) ?_
  refine ak (ok_invV (r := 0) (kF_finding hsd l) qF_finding ck10 kd0 iF_finding tw557 tw0 (by decide) tw555 (by decide +kernel)) ?_
  refine ak (ok_ireturn rfl (by decide +kernel)) ?_
  refine ak (ok_aload_n (k := 0) rfl (by decide +kernel)) ?_
  refine ak (ok_get (k := 0) ck10 kd0 (by decide) (fun _ _ _ => rfl) (vf_0_0 hsd) tw522 (by decide +kernel)) ?_
  refine ak (ok_get (k := 1) ck9 kd1 (by decide) (fun _ _ _ => rfl) (vf_1_1 hsd) tw389 (by decide +kernel)) ?_
  refine ak (ok_iload_n (k := 1) rfl (by decide +kernel)) ?_
  refine ak (ok_aald (t0 := 2) (C := RX7) kd2 (by decide) rfl (vr_2 hsd) (by decide +kernel)) ?_
  refine ak (ok_astore_n (k := 3) rfl (by decide) (by decide +kernel)) ?_
  refine ak (ok_aload_n (k := 3) rfl (by decide +kernel)) ?_
  refine ak (ok_get (k := 1) ck7 kd3 (by decide) (fun _ _ _ => rfl) (fun _ _ _ _ _ => trivial) tw178 (by decide +kernel)) ?_
  refine ak (ok_iload_n (k := 2) rfl (by decide +kernel)) ?_
  refine ak (ok_iadd (by decide +kernel)) ?_
  refine ak (ok_ldc tw605 (by decide +kernel)) ?_
  refine ak (ok_icmp_le (off := 9) (by decide) (by decide +kernel)) ?_
  refine ak (ok_aload_n (k := 0) rfl (by decide +kernel)) ?_
  refine ak (ok_iconst (n := 4) (by decide) (by decide +kernel)) ?_
  refine ak (ok_invV (r := 0) (kF_finding hsd l) qF_finding ck10 kd0 iF_finding tw557 tw0 (by decide) tw555 (by decide +kernel)) ?_
  refine ak (ok_ireturn rfl (by decide +kernel)) ?_
  refine ak (ok_aload_n (k := 3) rfl (by decide +kernel)) ?_
  refine ak (ok_dup (by decide +kernel)) ?_
  refine ak (ok_get (k := 1) ck7 kd3 (by decide) (fun _ _ _ => rfl) (fun _ _ _ _ _ => trivial) tw178 (by decide +kernel)) ?_
  refine ak (ok_iload_n (k := 2) rfl (by decide +kernel)) ?_
  refine ak (ok_iadd (by decide +kernel)) ?_
  refine ak (ok_put (k := 1) ck7 kd3 (by decide) (fun _ _ _ => rfl) rfl rfl (by decide) tw178 (by decide +kernel)) ?_
  refine ak (ok_aload_n (k := 3) rfl (by decide +kernel)) ?_
  refine ak (ok_get (k := 1) ck7 kd3 (by decide) (fun _ _ _ => rfl) (fun _ _ _ _ _ => trivial) tw178 (by decide +kernel)) ?_
  refine ak (ok_ireturn rfl (by decide +kernel)) ?_
  exact trivial
set_option maxRecDepth 1000000 in
theorem eF_harvest (x1 : Int32) (x2 : Int32) (M : Mem) : run (cF_harvest) (fun _ _ _ _ => none) rtI 400 (seek (cF_harvest) 0) [aR (0, 0, 0), aI x1, aI x2, aU] [] M = mF_harvest x1 x2 M := id rfl
theorem lF_harvest {E : EV} {l : Launch} {p : Program} {e : Env} {s : State} {m : MethodId} {args : Array Value} {below : List Frame} {meth : Method} {c : Code} (A : AllOK E l 3 "FreeLances" prog_1_method_7_code 4 (some .int) outI (cF_harvest)) (C : Cx E p s m args meth c "FreeLances" prog_1_method_7_code 4 (some .int)) : ∀ (x1 : Int32) (x2 : Int32) (M : Mem) (res : (Int32 × Mem)), mF_harvest x1 x2 M = some res → Wm E p l e 3 s m args below meth c 4 0 [aR (0, 0, 0), aI x1, aI x2, aU] [] M (outI res).1 (outI res).2 := by
  intro x1 x2 M res h
  refine run_at C A rfl hrtI (n := 400) ((eF_harvest x1 x2 M).trans h) ?_
  intro t als st M hk; cases hk
def dF_harvest {β : Type} : Den β := fun as M k => match as with
  | [.inr (.inr (.inl (al0, bl0, cl0))), .inl x1, .inl x2] => if al0 = 0 ∧ bl0 = 0 ∧ cl0 = 0 then (mF_harvest x1 x2 M).bind fun q => k (aI q.1) q.2 else none
  | _ => none
theorem wF_harvest {E : EV} (hsd : E.2.2.2 = 0) (l : Launch) (x1 : Int32) (x2 : Int32) (M : Mem) (q : (Int32 × Mem)) (hq : mF_harvest x1 x2 M = some q) : Con E l 3 yF_harvest prog_1_method_7_code 4 (some .int) [aR (0, 0, 0), aI x1, aI x2] M (outI q).1 (outI q).2 := by
  refine con_of iF_harvest (Nat.le_of_ble_eq_true rfl) ?_
  intro p e s m args below meth c C
  exact lF_harvest (oF_harvest hsd l) C x1 x2 M _ hq
theorem kF_harvest {E : EV} (hsd : E.2.2.2 = 0) (l : Launch) {β : Type} : DenOK E l 3 yF_harvest prog_1_method_7_code 4 (some .int) true (dF_harvest (β := β)) := by
  intro as M k res h
  unfold dF_harvest at h
  split at h
  ·
    split at h
    · rename_i hc
      obtain ⟨rfl, rfl, rfl⟩ := hc
      obtain ⟨q, hq, hk⟩ := Option.bind_eq_some_iff.mp h
      exact ⟨aI q.1, q.2, hk, rfl, wF_harvest hsd l _ _ M q hq⟩
    · cases h
  · cases h
theorem qF_harvest {β : Type} : RecOK 0 (dF_harvest (β := β)) := by
  intro as M k res h
  unfold dF_harvest at h
  split at h
  ·
    split at h
    · rename_i hc
      obtain ⟨rfl, rfl, rfl⟩ := hc
      exact ⟨_, _, _, rfl⟩
    · cases h
  · cases h
/-! ===== FreeLances$Company.begin(III)V ===== -/
abbrev yC_begin : MethodName := ⟨"FreeLances$Company", "begin", "(III)V"⟩
theorem iC_begin : MI yC_begin prog_3_method_2_code 5 none 3 := ⟨tw613, tw101, ⟨by decide, by decide⟩, by decide +kernel, by decide, by decide⟩
def cC_begin : List (Ent Mem) := [(false, 0, 1, sLdA 0),
  (false, 1, 1, sLdI 2),
  (false, 2, 3, sPut 6 0),
  (false, 5, 1, sLdA 0),
  (false, 6, 1, sLdI 3),
  (false, 7, 3, sPut 6 1),
  (false, 10, 1, sLdA 0),
  (false, 11, 1, sC 0),
  (false, 12, 3, sPut 6 2),
  (false, 15, 1, sLdA 0),
  (false, 16, 1, sLdI 1),
  (false, 17, 3, sPut 6 3),
  (false, 20, 1, sLdA 0),
  (false, 21, 1, sC (-1)),
  (false, 22, 3, sPut 6 4),
  (false, 25, 1, sLdA 0),
  (false, 26, 1, sC (-1)),
  (false, 27, 3, sPut 6 5),
  (false, 30, 1, sLdA 0),
  (false, 31, 1, sC 0),
  (false, 32, 3, sPut 6 6),
  (false, 35, 1, sLdA 0),
  (false, 36, 1, sC 0),
  (false, 37, 3, sPut 6 7),
  (false, 40, 1, sLdA 0),
  (false, 41, 1, sC (-1)),
  (false, 42, 3, sPut 6 8),
  (false, 45, 1, sLdA 0),
  (false, 46, 1, sC (-1)),
  (false, 47, 3, sPut 6 9),
  (false, 50, 1, sLdA 0),
  (false, 51, 1, sC (-1)),
  (false, 52, 3, sPut 6 10),
  (false, 55, 1, sLdA 0),
  (false, 56, 1, sC 0),
  (false, 57, 3, sPut 6 11),
  (false, 60, 1, sC 0),
  (false, 61, 2, sStI 4),
  (true, 63, 2, sLdI 4),
  (false, 65, 2, sC 8),
  (false, 67, 3, sCmpGe 84),
  (false, 70, 1, sLdA 0),
  (false, 71, 3, sGet 6 (fun w i M => aR (8, w, i))),
  (false, 74, 2, sLdI 4),
  (false, 76, 1, sC 0),
  (false, 77, 1, sIast 8 8),
  (false, 78, 3, sInc 4 1),
  (false, 81, 3, sGoto 63),
  (false, 84, 1, sRetV)]
theorem oC_begin {E : EV} (hsd : E.2.2.2 = 0) (l : Launch) : AllOK E l 1 "FreeLances$Company" prog_3_method_2_code 5 none outV (cC_begin) := by
  refine ak (ok_aload_n (k := 0) rfl (by decide +kernel)) ?_
  refine ak (ok_iload_n (k := 2) rfl (by decide +kernel)) ?_
  refine ak (ok_put (k := 0) ck1 kd6 (by decide) (fun _ _ _ => rfl) rfl rfl (by decide) tw198 (by decide +kernel)) ?_
  refine ak (ok_aload_n (k := 0) rfl (by decide +kernel)) ?_
  refine ak (ok_iload_n (k := 3) rfl (by decide +kernel)) ?_
  refine ak (ok_put (k := 1) ck1 kd6 (by decide) (fun _ _ _ => rfl) rfl rfl (by decide) tw201 (by decide +kernel)) ?_
  refine ak (ok_aload_n (k := 0) rfl (by decide +kernel)) ?_
  refine ak (ok_iconst (n := 0) (by decide) (by decide +kernel)) ?_
  refine ak (ok_put (k := 2) ck1 kd6 (by decide) (fun _ _ _ => rfl) rfl rfl (by decide) tw204 (by decide +kernel)) ?_
  refine ak (ok_aload_n (k := 0) rfl (by decide +kernel)) ?_
  refine ak (ok_iload_n (k := 1) rfl (by decide +kernel)) ?_
  refine ak (ok_put (k := 3) ck1 kd6 (by decide) (fun _ _ _ => rfl) rfl rfl (by decide) tw207 (by decide +kernel)) ?_
  refine ak (ok_aload_n (k := 0) rfl (by decide +kernel)) ?_
  refine ak (ok_iconst (n := (-1)) (by decide) (by decide +kernel)) ?_
  refine ak (ok_put (k := 4) ck1 kd6 (by decide) (fun _ _ _ => rfl) rfl rfl (by decide) tw210 (by decide +kernel)) ?_
  refine ak (ok_aload_n (k := 0) rfl (by decide +kernel)) ?_
  refine ak (ok_iconst (n := (-1)) (by decide) (by decide +kernel)) ?_
  refine ak (ok_put (k := 5) ck1 kd6 (by decide) (fun _ _ _ => rfl) rfl rfl (by decide) tw212 (by decide +kernel)) ?_
  refine ak (ok_aload_n (k := 0) rfl (by decide +kernel)) ?_
  refine ak (ok_iconst (n := 0) (by decide) (by decide +kernel)) ?_
  refine ak (ok_put (k := 6) ck1 kd6 (by decide) (fun _ _ _ => rfl) rfl rfl (by decide) tw214 (by decide +kernel)) ?_
  refine ak (ok_aload_n (k := 0) rfl (by decide +kernel)) ?_
  refine ak (ok_iconst (n := 0) (by decide) (by decide +kernel)) ?_
  refine ak (ok_put (k := 7) ck1 kd6 (by decide) (fun _ _ _ => rfl) rfl rfl (by decide) tw218 (by decide +kernel)) ?_
  refine ak (ok_aload_n (k := 0) rfl (by decide +kernel)) ?_
  refine ak (ok_iconst (n := (-1)) (by decide) (by decide +kernel)) ?_
  refine ak (ok_put (k := 8) ck1 kd6 (by decide) (fun _ _ _ => rfl) rfl rfl (by decide) tw221 (by decide +kernel)) ?_
  refine ak (ok_aload_n (k := 0) rfl (by decide +kernel)) ?_
  refine ak (ok_iconst (n := (-1)) (by decide) (by decide +kernel)) ?_
  refine ak (ok_put (k := 9) ck1 kd6 (by decide) (fun _ _ _ => rfl) rfl rfl (by decide) tw224 (by decide +kernel)) ?_
  refine ak (ok_aload_n (k := 0) rfl (by decide +kernel)) ?_
  refine ak (ok_iconst (n := (-1)) (by decide) (by decide +kernel)) ?_
  refine ak (ok_put (k := 10) ck1 kd6 (by decide) (fun _ _ _ => rfl) rfl rfl (by decide) tw226 (by decide +kernel)) ?_
  refine ak (ok_aload_n (k := 0) rfl (by decide +kernel)) ?_
  refine ak (ok_iconst (n := 0) (by decide) (by decide +kernel)) ?_
  refine ak (ok_put (k := 11) ck1 kd6 (by decide) (fun _ _ _ => rfl) rfl rfl (by decide) tw228 (by decide +kernel)) ?_
  refine ak (ok_iconst (n := 0) (by decide) (by decide +kernel)) ?_
  refine ak (ok_istore (by decide) (by decide +kernel)) ?_
  refine ak (ok_iload (by decide +kernel)) ?_
  refine ak (ok_bipush (n := 8) (by decide) (by decide +kernel)) ?_
  refine ak (ok_icmp_ge (off := 17) (by decide) (by decide +kernel)) ?_
  refine ak (ok_aload_n (k := 0) rfl (by decide +kernel)) ?_
  refine ak (ok_get (k := 13) ck1 kd6 (by decide) (fun _ _ _ => rfl) (vf_6_13 hsd) tw233 (by decide +kernel)) ?_
  refine ak (ok_iload (by decide +kernel)) ?_
  refine ak (ok_iconst (n := 0) (by decide) (by decide +kernel)) ?_
  refine ak (ok_iast kd8 (by decide) (by decide) (by decide +kernel)) ?_
  refine ak (ok_iinc (n := 1) (by decide) (by decide) (by decide +kernel)) ?_
  refine ak (ok_goto (off := (-18)) (by decide) (by decide +kernel)) ?_
  refine ak (ok_return rfl (by decide +kernel)) ?_
  exact trivial
def KC_begin_63 (j63 : Nat → Nat → Int32 → Mem → Option Mem) : Jm Mem := fun t als st M =>
  if t = 63 then (match als, st with
  | [.inr (.inr (.inl (al0, w0, i0))), _, _, _, .inl x4], [] => if al0 = 6 then j63 w0 i0 x4 M else none
  | _, _ => none) else
  none
set_option maxRecDepth 1000000 in
theorem eC_begin_63 (j63 : Nat → Nat → Int32 → Mem → Option Mem) (w0 : Nat) (i0 : Nat) (x4 : Int32) (M : Mem) (u1 u2 u3 : AV) : run (cC_begin) (KC_begin_63 j63) rtV 400 (seek (cC_begin) 63) [aR (6, w0, i0), u1, u2, u3, aI x4] [] M = mC_begin_63b j63 w0 i0 x4 M := id rfl
theorem lC_begin_63 {E : EV} {l : Launch} {p : Program} {e : Env} {s : State} {m : MethodId} {args : Array Value} {below : List Frame} {meth : Method} {c : Code} (A : AllOK E l 1 "FreeLances$Company" prog_3_method_2_code 5 none outV (cC_begin)) (C : Cx E p s m args meth c "FreeLances$Company" prog_3_method_2_code 5 none) : ∀ (n : Nat), ∀ (w0 : Nat) (i0 : Nat) (x4 : Int32) (M : Mem) (res : Mem), mC_begin_63 n w0 i0 x4 M = some res → ∀ (u1 u2 u3 : AV), Wm E p l e 1 s m args below meth c 5 63 [aR (6, w0, i0), u1, u2, u3, aI x4] [] M (outV res).1 (outV res).2 := by
  intro n
  induction n with
  | zero => intro _ _ _ M res h; cases h
  | succ n ih =>
    intro w0 i0 x4 M res h u1 u2 u3
    refine run_at C A rfl hrtV (n := 400) ((eC_begin_63 (mC_begin_63 n) w0 i0 x4 M u1 u2 u3).trans h) ?_
    intro t als st M hk
    unfold KC_begin_63 at hk
    split at hk
    · rename_i ht
      subst ht
      split at hk
      · split at hk
        · rename_i hc
          obtain rfl := hc
          exact ih _ _ _ _ _ hk _ _ _
        · cases hk
      · cases hk
    cases hk
def KC_begin (j63 : Nat → Nat → Int32 → Mem → Option Mem) : Jm Mem := fun t als st M =>
  if t = 63 then (match als, st with
  | [.inr (.inr (.inl (al0, w0, i0))), _, _, _, .inl x4], [] => if al0 = 6 then j63 w0 i0 x4 M else none
  | _, _ => none) else
  none
set_option maxRecDepth 1000000 in
theorem eC_begin (j63 : Nat → Nat → Int32 → Mem → Option Mem) (w0 : Nat) (i0 : Nat) (x1 : Int32) (x2 : Int32) (x3 : Int32) (M : Mem) : run (cC_begin) (KC_begin j63) rtV 400 (seek (cC_begin) 0) [aR (6, w0, i0), aI x1, aI x2, aI x3, aU] [] M = mC_beginb j63 w0 i0 x1 x2 x3 M := id rfl
theorem lC_begin {E : EV} {l : Launch} {p : Program} {e : Env} {s : State} {m : MethodId} {args : Array Value} {below : List Frame} {meth : Method} {c : Code} (A : AllOK E l 1 "FreeLances$Company" prog_3_method_2_code 5 none outV (cC_begin)) (C : Cx E p s m args meth c "FreeLances$Company" prog_3_method_2_code 5 none) : ∀ (w0 : Nat) (i0 : Nat) (x1 : Int32) (x2 : Int32) (x3 : Int32) (M : Mem) (res : Mem), mC_begin w0 i0 x1 x2 x3 M = some res → Wm E p l e 1 s m args below meth c 5 0 [aR (6, w0, i0), aI x1, aI x2, aI x3, aU] [] M (outV res).1 (outV res).2 := by
  intro w0 i0 x1 x2 x3 M res h
  refine run_at C A rfl hrtV (n := 400) ((eC_begin (mC_begin_63 fuel) w0 i0 x1 x2 x3 M).trans h) ?_
  intro t als st M hk
  unfold KC_begin at hk
  split at hk
  · rename_i ht
    subst ht
    split at hk
    · split at hk
      · rename_i hc
        obtain rfl := hc
        exact lC_begin_63 A C _ _ _ _ _ _ hk _ _ _
      · cases hk
    · cases hk
  cases hk
def dC_begin {β : Type} : Den β := fun as M k => match as with
  | [.inr (.inr (.inl (al0, w0, i0))), .inl x1, .inl x2, .inl x3] => if al0 = 6 then (mC_begin w0 i0 x1 x2 x3 M).bind fun q => k aU q else none
  | _ => none
theorem wC_begin {E : EV} (hsd : E.2.2.2 = 0) (l : Launch) (w0 : Nat) (i0 : Nat) (x1 : Int32) (x2 : Int32) (x3 : Int32) (M : Mem) (q : Mem) (hq : mC_begin w0 i0 x1 x2 x3 M = some q) : Con E l 1 yC_begin prog_3_method_2_code 5 none [aR (6, w0, i0), aI x1, aI x2, aI x3] M (outV q).1 (outV q).2 := by
  refine con_of iC_begin (Nat.le_of_ble_eq_true rfl) ?_
  intro p e s m args below meth c C
  exact lC_begin (oC_begin hsd l) C w0 i0 x1 x2 x3 M _ hq
theorem kC_begin {E : EV} (hsd : E.2.2.2 = 0) (l : Launch) {β : Type} : DenOK E l 1 yC_begin prog_3_method_2_code 5 none false (dC_begin (β := β)) := by
  intro as M k res h
  unfold dC_begin at h
  split at h
  ·
    split at h
    · rename_i hc
      obtain rfl := hc
      obtain ⟨q, hq, hk⟩ := Option.bind_eq_some_iff.mp h
      exact ⟨aU, q, hk, rfl, wC_begin hsd l _ _ _ _ _ M q hq⟩
    · cases h
  · cases h
theorem qC_begin {β : Type} : RecOK 6 (dC_begin (β := β)) := by
  intro as M k res h
  unfold dC_begin at h
  split at h
  ·
    split at h
    · rename_i hc
      obtain rfl := hc
      exact ⟨_, _, _, rfl⟩
    · cases h
  · cases h
