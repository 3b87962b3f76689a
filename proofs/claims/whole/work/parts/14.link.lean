/-! ===== FreeLances.company(III)I ===== -/
abbrev yF_company : MethodName := ⟨"FreeLances", "company", "(III)I"⟩
theorem iF_company : MI yF_company prog_1_method_8_code 4 (some .int) 3 := ⟨tw609, tw97, ⟨by decide, by decide⟩, by decide +kernel, by decide, by decide⟩
def cF_company : List (Ent (Int32 × Mem)) := [(false, 0, 1, sLdA 0),
  (false, 1, 1, sLdI 1),
  (false, 2, 3, sInv 2 true dF_isTown),
  (false, 5, 3, sIfEq 30),
  (false, 8, 1, sLdI 2),
  (false, 9, 1, sC 0),
  (false, 10, 3, sC 9999),
  (false, 13, 3, sInv 3 true dF_within),
  (false, 16, 3, sIfEq 30),
  (false, 19, 1, sLdI 3),
  (false, 20, 1, sC 0),
  (false, 21, 3, sC 9999),
  (false, 24, 3, sInv 3 true dF_within),
  (false, 27, 3, sIfNe 36),
  (false, 30, 1, sLdA 0),
  (false, 31, 1, sC 1),
  (false, 32, 3, sInv 2 true dF_finding),
  (false, 35, 1, sRetI),
  (false, 36, 1, sLdA 0),
  (false, 37, 3, sGet 0 (fun w i M => aR (1, 0, 0))),
  (false, 40, 3, sGet 1 (fun w i M => aI (M 1 w i 6))),
  (false, 43, 1, sC 5),
  (false, 44, 3, sCmpLt 53),
  (false, 47, 1, sLdA 0),
  (false, 48, 1, sC 4),
  (false, 49, 3, sInv 2 true dF_finding),
  (false, 52, 1, sRetI),
  (false, 53, 1, sLdA 0),
  (false, 54, 3, sGet 0 (fun w i M => aR (1, 0, 0))),
  (false, 57, 3, sGet 1 (fun w i M => aR (5, w, 0))),
  (false, 60, 1, sLdA 0),
  (false, 61, 3, sGet 0 (fun w i M => aR (1, 0, 0))),
  (false, 64, 3, sGet 1 (fun w i M => aI (M 1 w i 6))),
  (false, 67, 1, sAald 5 5 6),
  (false, 68, 1, sLdI 1),
  (false, 69, 1, sLdI 2),
  (false, 70, 1, sLdI 3),
  (false, 71, 3, sInv 4 false dC_begin),
  (false, 74, 1, sLdA 0),
  (false, 75, 3, sGet 0 (fun w i M => aR (1, 0, 0))),
  (false, 78, 1, sDup),
  (false, 79, 3, sGet 1 (fun w i M => aI (M 1 w i 6))),
  (false, 82, 1, sDupX1),
  (false, 83, 1, sC 1),
  (false, 84, 1, sBin (fun x y => x + y)),
  (false, 85, 3, sPut 1 6),
  (false, 88, 1, sRetI)]
theorem oF_company {E : EV} (hsd : E.2.2.2 = 0) (l : Launch) : AllOK E l 3 "FreeLances" prog_1_method_8_code 4 (some .int) outI (cF_company) := by
  refine ak (ok_aload_n (k := 0) rfl (by decide +kernel)) ?_
  refine ak (ok_iload_n (k := 1) rfl (by decide +kernel)) ?_
  refine ak (ok_invV (r := 0) (kF_isTown hsd l) qF_isTown ck10 kd0 iF_isTown tw570 tw1 (by decide) tw568 (by decide +kernel)) ?_
  refine ak (ok_if_eq (off := 25) (by decide) (by decide +kernel)) ?_
  refine ak (ok_iload_n (k := 2) rfl (by decide +kernel)) ?_
  refine ak (ok_iconst (n := 0) (by decide) (by decide +kernel)) ?_
  refine ak (ok_sipush (n := 9999) (by decide) (by decide +kernel)) ?_
  refine ak (ok_invS (kF_within hsd l) iF_within tw553 (by decide) tw552 (by decide +kernel)) ?_
  refine ak (ok_if_eq (off := 14) (by decide) (by decide +kernel)) ?_
  refine ak (ok_iload_n (k := 3) rfl (by decide +kernel)) ?_
  refine ak (ok_iconst (n := 0) (by decide) (by decide +kernel)) ?_
  refine ak (ok_sipush (n := 9999) (by decide) (by decide +kernel)) ?_
  refine ak (ok_invS (kF_within hsd l) iF_within tw553 (by decide) tw552 (by decide +kernel)) ?_
  refine ak (ok_if_ne (off := 9) (by decide) (by decide +kernel)) ?_
  refine ak (ok_aload_n (k := 0) rfl (by decide +kernel)) ?_
  refine ak (ok_iconst (n := 1) (by decide) (by decide +kernel)) ?_
  refine ak (ok_invV (r := 0) (kF_finding hsd l) qF_finding ck10 kd0 iF_finding tw557 tw0 (by decide) tw555 (by decide +kernel)) ?_
  refine ak (ok_ireturn rfl (by decide +kernel)) ?_
  refine ak (ok_aload_n (k := 0) rfl (by decide +kernel)) ?_
  refine ak (ok_get (k := 0) ck10 kd0 (by decide) (fun _ _ _ => rfl) (vf_0_0 hsd) tw522 (by decide +kernel)) ?_
  refine ak (ok_get (k := 6) ck9 kd1 (by decide) (fun _ _ _ => rfl) (fun _ _ _ _ _ => trivial) tw401 (by decide +kernel)) ?_
  refine ak (ok_iconst (n := 5) (by decide) (by decide +kernel)) ?_
  refine ak (ok_icmp_lt (off := 9) (by decide) (by decide +kernel)) ?_
  refine ak (ok_aload_n (k := 0) rfl (by decide +kernel)) ?_
  refine ak (ok_iconst (n := 4) (by decide) (by decide +kernel)) ?_
  refine ak (ok_invV (r := 0) (kF_finding hsd l) qF_finding ck10 kd0 iF_finding tw557 tw0 (by decide) tw555 (by decide +kernel)) ?_
  refine ak (ok_ireturn rfl (by decide +kernel)) ?_
  refine ak (ok_aload_n (k := 0) rfl (by decide +kernel)) ?_
  refine ak (ok_get (k := 0) ck10 kd0 (by decide) (fun _ _ _ => rfl) (vf_0_0 hsd) tw522 (by decide +kernel)) ?_
  refine ak (ok_get (k := 5) ck9 kd1 (by decide) (fun _ _ _ => rfl) (vf_1_5 hsd) tw398 (by decide +kernel)) ?_
  refine ak (ok_aload_n (k := 0) rfl (by decide +kernel)) ?_
  refine ak (ok_get (k := 0) ck10 kd0 (by decide) (fun _ _ _ => rfl) (vf_0_0 hsd) tw522 (by decide +kernel)) ?_
  refine ak (ok_get (k := 6) ck9 kd1 (by decide) (fun _ _ _ => rfl) (fun _ _ _ _ _ => trivial) tw401 (by decide +kernel)) ?_
  refine ak (ok_aald (t0 := 3) (C := RX1) kd5 (by decide) rfl (vr_5 hsd) (by decide +kernel)) ?_
  refine ak (ok_iload_n (k := 1) rfl (by decide +kernel)) ?_
  refine ak (ok_iload_n (k := 2) rfl (by decide +kernel)) ?_
  refine ak (ok_iload_n (k := 3) rfl (by decide +kernel)) ?_
  refine ak (ok_invV (r := 6) (kC_begin hsd l) qC_begin ck1 kd6 iC_begin tw611 tw612 (by decide) tw610 (by decide +kernel)) ?_
  refine ak (ok_aload_n (k := 0) rfl (by decide +kernel)) ?_
  refine ak (ok_get (k := 0) ck10 kd0 (by decide) (fun _ _ _ => rfl) (vf_0_0 hsd) tw522 (by decide +kernel)) ?_
  refine ak (ok_dup (by decide +kernel)) ?_
  refine ak (ok_get (k := 6) ck9 kd1 (by decide) (fun _ _ _ => rfl) (fun _ _ _ _ _ => trivial) tw401 (by decide +kernel)) ?_
  refine ak (ok_dup_x1 (by decide +kernel)) ?_
  refine ak (ok_iconst (n := 1) (by decide) (by decide +kernel)) ?_
  refine ak (ok_iadd (by decide +kernel)) ?_
  refine ak (ok_put (k := 6) ck9 kd1 (by decide) (fun _ _ _ => rfl) rfl rfl (by decide) tw401 (by decide +kernel)) ?_
  refine ak (ok_ireturn rfl (by decide +kernel)) ?_
  exact trivial
set_option maxRecDepth 1000000 in
theorem eF_company (x1 : Int32) (x2 : Int32) (x3 : Int32) (M : Mem) : run (cF_company) (fun _ _ _ _ => none) rtI 400 (seek (cF_company) 0) [aR (0, 0, 0), aI x1, aI x2, aI x3] [] M = mF_company x1 x2 x3 M := id rfl
theorem lF_company {E : EV} {l : Launch} {p : Program} {e : Env} {s : State} {m : MethodId} {args : Array Value} {below : List Frame} {meth : Method} {c : Code} (A : AllOK E l 3 "FreeLances" prog_1_method_8_code 4 (some .int) outI (cF_company)) (C : Cx E p s m args meth c "FreeLances" prog_1_method_8_code 4 (some .int)) : ∀ (x1 : Int32) (x2 : Int32) (x3 : Int32) (M : Mem) (res : (Int32 × Mem)), mF_company x1 x2 x3 M = some res → Wm E p l e 3 s m args below meth c 4 0 [aR (0, 0, 0), aI x1, aI x2, aI x3] [] M (outI res).1 (outI res).2 := by
  intro x1 x2 x3 M res h
  refine run_at C A rfl hrtI (n := 400) ((eF_company x1 x2 x3 M).trans h) ?_
  intro t als st M hk; cases hk
def dF_company {β : Type} : Den β := fun as M k => match as with
  | [.inr (.inr (.inl (al0, bl0, cl0))), .inl x1, .inl x2, .inl x3] => if al0 = 0 ∧ bl0 = 0 ∧ cl0 = 0 then (mF_company x1 x2 x3 M).bind fun q => k (aI q.1) q.2 else none
  | _ => none
theorem wF_company {E : EV} (hsd : E.2.2.2 = 0) (l : Launch) (x1 : Int32) (x2 : Int32) (x3 : Int32) (M : Mem) (q : (Int32 × Mem)) (hq : mF_company x1 x2 x3 M = some q) : Con E l 3 yF_company prog_1_method_8_code 4 (some .int) [aR (0, 0, 0), aI x1, aI x2, aI x3] M (outI q).1 (outI q).2 := by
  refine con_of iF_company (Nat.le_of_ble_eq_true rfl) ?_
  intro p e s m args below meth c C
  exact lF_company (oF_company hsd l) C x1 x2 x3 M _ hq
theorem kF_company {E : EV} (hsd : E.2.2.2 = 0) (l : Launch) {β : Type} : DenOK E l 3 yF_company prog_1_method_8_code 4 (some .int) true (dF_company (β := β)) := by
  intro as M k res h
  unfold dF_company at h
  split at h
  ·
    split at h
    · rename_i hc
      obtain ⟨rfl, rfl, rfl⟩ := hc
      obtain ⟨q, hq, hk⟩ := Option.bind_eq_some_iff.mp h
      exact ⟨aI q.1, q.2, hk, rfl, wF_company hsd l _ _ _ M q hq⟩
    · cases h
  · cases h
theorem qF_company {β : Type} : RecOK 0 (dF_company (β := β)) := by
  intro as M k res h
  unfold dF_company at h
  split at h
  ·
    split at h
    · rename_i hc
      obtain ⟨rfl, rfl, rfl⟩ := hc
      exact ⟨_, _, _, rfl⟩
    · cases h
  · cases h
/-! ===== FreeLances.isCompany(I)Z ===== -/
abbrev yF_isCompany : MethodName := ⟨"FreeLances", "isCompany", "(I)Z"⟩
theorem iF_isCompany : MI yF_isCompany prog_1_method_64_code 2 (some .boolean) 1 := ⟨tw621, tw97, ⟨by decide, by decide⟩, by decide +kernel, by decide, by decide⟩
def cF_isCompany : List (Ent (Int32 × Mem)) := [(false, 0, 1, sLdI 1),
  (false, 1, 1, sC 0),
  (false, 2, 1, sLdA 0),
  (false, 3, 3, sGet 0 (fun w i M => aR (1, 0, 0))),
  (false, 6, 3, sGet 1 (fun w i M => aI (M 1 w i 6))),
  (false, 9, 1, sC 1),
  (false, 10, 1, sBin (fun x y => x - y)),
  (false, 11, 3, sInv 3 true dF_within),
  (false, 14, 1, sRetZ)]
theorem oF_isCompany {E : EV} (hsd : E.2.2.2 = 0) (l : Launch) : AllOK E l 2 "FreeLances" prog_1_method_64_code 2 (some .boolean) outI (cF_isCompany) := by
  refine ak (ok_iload_n (k := 1) rfl (by decide +kernel)) ?_
  refine ak (ok_iconst (n := 0) (by decide) (by decide +kernel)) ?_
  refine ak (ok_aload_n (k := 0) rfl (by decide +kernel)) ?_
  refine ak (ok_get (k := 0) ck10 kd0 (by decide) (fun _ _ _ => rfl) (vf_0_0 hsd) tw522 (by decide +kernel)) ?_
  refine ak (ok_get (k := 6) ck9 kd1 (by decide) (fun _ _ _ => rfl) (fun _ _ _ _ _ => trivial) tw401 (by decide +kernel)) ?_
  refine ak (ok_iconst (n := 1) (by decide) (by decide +kernel)) ?_
  refine ak (ok_isub (by decide +kernel)) ?_
  refine ak (ok_invS (kF_within hsd l) iF_within tw553 (by decide) tw552 (by decide +kernel)) ?_
  refine ak (ok_zreturn rfl (by decide +kernel)) ?_
  exact trivial
set_option maxRecDepth 1000000 in
theorem eF_isCompany (x1 : Int32) (M : Mem) : run (cF_isCompany) (fun _ _ _ _ => none) rtI 400 (seek (cF_isCompany) 0) [aR (0, 0, 0), aI x1] [] M = mF_isCompany x1 M := id rfl
theorem lF_isCompany {E : EV} {l : Launch} {p : Program} {e : Env} {s : State} {m : MethodId} {args : Array Value} {below : List Frame} {meth : Method} {c : Code} (A : AllOK E l 2 "FreeLances" prog_1_method_64_code 2 (some .boolean) outI (cF_isCompany)) (C : Cx E p s m args meth c "FreeLances" prog_1_method_64_code 2 (some .boolean)) : ∀ (x1 : Int32) (M : Mem) (res : (Int32 × Mem)), mF_isCompany x1 M = some res → Wm E p l e 2 s m args below meth c 2 0 [aR (0, 0, 0), aI x1] [] M (outI res).1 (outI res).2 := by
  intro x1 M res h
  refine run_at C A rfl hrtI (n := 400) ((eF_isCompany x1 M).trans h) ?_
  intro t als st M hk; cases hk
def dF_isCompany {β : Type} : Den β := fun as M k => match as with
  | [.inr (.inr (.inl (al0, bl0, cl0))), .inl x1] => if al0 = 0 ∧ bl0 = 0 ∧ cl0 = 0 then (mF_isCompany x1 M).bind fun q => k (aI q.1) q.2 else none
  | _ => none
theorem wF_isCompany {E : EV} (hsd : E.2.2.2 = 0) (l : Launch) (x1 : Int32) (M : Mem) (q : (Int32 × Mem)) (hq : mF_isCompany x1 M = some q) : Con E l 2 yF_isCompany prog_1_method_64_code 2 (some .boolean) [aR (0, 0, 0), aI x1] M (outI q).1 (outI q).2 := by
  refine con_of iF_isCompany (Nat.le_of_ble_eq_true rfl) ?_
  intro p e s m args below meth c C
  exact lF_isCompany (oF_isCompany hsd l) C x1 M _ hq
theorem kF_isCompany {E : EV} (hsd : E.2.2.2 = 0) (l : Launch) {β : Type} : DenOK E l 2 yF_isCompany prog_1_method_64_code 2 (some .boolean) true (dF_isCompany (β := β)) := by
  intro as M k res h
  unfold dF_isCompany at h
  split at h
  ·
    split at h
    · rename_i hc
      obtain ⟨rfl, rfl, rfl⟩ := hc
      obtain ⟨q, hq, hk⟩ := Option.bind_eq_some_iff.mp h
      exact ⟨aI q.1, q.2, hk, rfl, wF_isCompany hsd l _ M q hq⟩
    · cases h
  · cases h
theorem qF_isCompany {β : Type} : RecOK 0 (dF_isCompany (β := β)) := by
  intro as M k res h
  unfold dF_isCompany at h
  split at h
  ·
    split at h
    · rename_i hc
      obtain ⟨rfl, rfl, rfl⟩ := hc
      exact ⟨_, _, _, rfl⟩
    · cases h
  · cases h
/-! ===== FreeLances$Company.marches()Z ===== -/
abbrev yC_marches : MethodName := ⟨"FreeLances$Company", "marches", "()Z"⟩
theorem iC_marches : MI yC_marches prog_3_method_4_code 1 (some .boolean) 0 := ⟨tw625, tw101, ⟨by decide, by decide⟩, by decide +kernel, by decide, by decide⟩
def cC_marches : List (Ent (Int32 × Mem)) := [(false, 0, 1, sLdA 0),
  (false, 1, 3, sGet 6 (fun w i M => aI (M 6 w i 3))),
  (false, 4, 3, sIfGe 11),
  (false, 7, 1, sC 1),
  (false, 8, 3, sGoto 12),
  (false, 11, 1, sC 0),
  (false, 12, 1, sRetZ)]
theorem oC_marches {E : EV} (hsd : E.2.2.2 = 0) (l : Launch) : AllOK E l 1 "FreeLances$Company" prog_3_method_4_code 1 (some .boolean) outI (cC_marches) := by
  refine ak (ok_aload_n (k := 0) rfl (by decide +kernel)) ?_
  refine ak (ok_get (k := 3) ck1 kd6 (by decide) (fun _ _ _ => rfl) (fun _ _ _ _ _ => trivial) tw207 (by decide +kernel)) ?_
  refine ak (ok_if_ge (off := 7) (by decide) (by decide +kernel)) ?_
  refine ak (ok_iconst (n := 1) (by decide) (by decide +kernel)) ?_
  refine ak (ok_goto (off := 4) (by decide) (by decide +kernel)) ?_
  refine ak (ok_iconst (n := 0) (by decide) (by decide +kernel)) ?_
  refine ak (ok_zreturn rfl (by decide +kernel)) ?_
  exact trivial
set_option maxRecDepth 1000000 in
theorem eC_marches (w0 : Nat) (i0 : Nat) (M : Mem) : run (cC_marches) (fun _ _ _ _ => none) rtI 400 (seek (cC_marches) 0) [aR (6, w0, i0)] [] M = mC_marches w0 i0 M := id rfl
theorem lC_marches {E : EV} {l : Launch} {p : Program} {e : Env} {s : State} {m : MethodId} {args : Array Value} {below : List Frame} {meth : Method} {c : Code} (A : AllOK E l 1 "FreeLances$Company" prog_3_method_4_code 1 (some .boolean) outI (cC_marches)) (C : Cx E p s m args meth c "FreeLances$Company" prog_3_method_4_code 1 (some .boolean)) : ∀ (w0 : Nat) (i0 : Nat) (M : Mem) (res : (Int32 × Mem)), mC_marches w0 i0 M = some res → Wm E p l e 1 s m args below meth c 1 0 [aR (6, w0, i0)] [] M (outI res).1 (outI res).2 := by
  intro w0 i0 M res h
  refine run_at C A rfl hrtI (n := 400) ((eC_marches w0 i0 M).trans h) ?_
  intro t als st M hk; cases hk
def dC_marches {β : Type} : Den β := fun as M k => match as with
  | [.inr (.inr (.inl (al0, w0, i0)))] => if al0 = 6 then (mC_marches w0 i0 M).bind fun q => k (aI q.1) q.2 else none
  | _ => none
theorem wC_marches {E : EV} (hsd : E.2.2.2 = 0) (l : Launch) (w0 : Nat) (i0 : Nat) (M : Mem) (q : (Int32 × Mem)) (hq : mC_marches w0 i0 M = some q) : Con E l 1 yC_marches prog_3_method_4_code 1 (some .boolean) [aR (6, w0, i0)] M (outI q).1 (outI q).2 := by
  refine con_of iC_marches (Nat.le_of_ble_eq_true rfl) ?_
  intro p e s m args below meth c C
  exact lC_marches (oC_marches hsd l) C w0 i0 M _ hq
theorem kC_marches {E : EV} (hsd : E.2.2.2 = 0) (l : Launch) {β : Type} : DenOK E l 1 yC_marches prog_3_method_4_code 1 (some .boolean) true (dC_marches (β := β)) := by
  intro as M k res h
  unfold dC_marches at h
  split at h
  ·
    split at h
    · rename_i hc
      obtain rfl := hc
      obtain ⟨q, hq, hk⟩ := Option.bind_eq_some_iff.mp h
      exact ⟨aI q.1, q.2, hk, rfl, wC_marches hsd l _ _ M q hq⟩
    · cases h
  · cases h
theorem qC_marches {β : Type} : RecOK 6 (dC_marches (β := β)) := by
  intro as M k res h
  unfold dC_marches at h
  split at h
  ·
    split at h
    · rename_i hc
      obtain rfl := hc
      exact ⟨_, _, _, rfl⟩
    · cases h
  · cases h
/-! ===== FreeLances.march(II)I ===== -/
abbrev yF_march : MethodName := ⟨"FreeLances", "march", "(II)I"⟩
theorem iF_march : MI yF_march prog_1_method_9_code 5 (some .int) 2 := ⟨tw617, tw97, ⟨by decide, by decide⟩, by decide +kernel, by decide, by decide⟩
def cF_march : List (Ent (Int32 × Mem)) := [(false, 0, 1, sLdA 0),
  (false, 1, 1, sLdI 1),
  (false, 2, 3, sInv 2 true dF_isCompany),
  (false, 5, 3, sIfEq 16),
  (false, 8, 1, sLdA 0),
  (false, 9, 1, sLdI 2),
  (false, 10, 3, sInv 2 true dF_isTown),
  (false, 13, 3, sIfNe 22),
  (false, 16, 1, sLdA 0),
  (false, 17, 1, sC 1),
  (false, 18, 3, sInv 2 true dF_finding),
  (false, 21, 1, sRetI),
  (false, 22, 1, sLdA 0),
  (false, 23, 3, sGet 0 (fun w i M => aR (1, 0, 0))),
  (false, 26, 3, sGet 1 (fun w i M => aR (5, w, 0))),
  (false, 29, 1, sLdI 1),
  (false, 30, 1, sAald 5 5 6),
  (false, 31, 1, sStA 3),
  (false, 32, 1, sLdA 3),
  (false, 33, 3, sInv 1 true dC_marches),
  (false, 36, 3, sIfNe 47),
  (false, 39, 1, sLdA 3),
  (false, 40, 3, sGet 6 (fun w i M => aI (M 6 w i 3))),
  (false, 43, 1, sLdI 2),
  (false, 44, 3, sCmpNe 53),
  (false, 47, 1, sLdA 0),
  (false, 48, 1, sC 3),
  (false, 49, 3, sInv 2 true dF_finding),
  (false, 52, 1, sRetI),
  (false, 53, 1, sLdA 0),
  (false, 54, 3, sGet 0 (fun w i M => aR (1, 0, 0))),
  (false, 57, 1, sLdA 3),
  (false, 58, 3, sGet 6 (fun w i M => aI (M 6 w i 3))),
  (false, 61, 1, sLdI 2),
  (false, 62, 3, sInv 3 true dW_way),
  (false, 65, 2, sStI 4),
  (false, 67, 2, sLdI 4),
  (false, 69, 2, sC 1000000),
  (false, 71, 3, sCmpLt 80),
  (false, 74, 1, sLdA 0),
  (false, 75, 1, sC 2),
  (false, 76, 3, sInv 2 true dF_finding),
  (false, 79, 1, sRetI),
  (false, 80, 1, sLdA 3),
  (false, 81, 1, sC (-1)),
  (false, 82, 3, sPut 6 3),
  (false, 85, 1, sLdA 3),
  (false, 86, 1, sLdI 2),
  (false, 87, 3, sPut 6 4),
  (false, 90, 1, sLdA 3),
  (false, 91, 1, sLdA 0),
  (false, 92, 3, sGet 0 (fun w i M => aR (1, 0, 0))),
  (false, 95, 3, sGet 1 (fun w i M => aI (M 1 w i 0))),
  (false, 98, 2, sLdI 4),
  (false, 100, 1, sBin (fun x y => x + y)),
  (false, 101, 3, sPut 6 5),
  (false, 104, 1, sLdA 3),
  (false, 105, 3, sGet 6 (fun w i M => aI (M 6 w i 5))),
  (false, 108, 1, sRetI)]
theorem oF_march {E : EV} (hsd : E.2.2.2 = 0) (l : Launch) : AllOK E l 3 "FreeLances" prog_1_method_9_code 5 (some .int) outI (cF_march) := by
  refine ak (ok_aload_n (k := 0) rfl (by decide +kernel)) ?_
  refine ak (ok_iload_n (k := 1) rfl (by decide +kernel)) ?_
  refine ak (ok_invV (r := 0) (kF_isCompany hsd l) qF_isCompany ck10 kd0 iF_isCompany tw620 tw2 (by decide) tw618 (by decide +kernel)) ?_
  refine ak (ok_if_eq (off := 11) (by decide) (by decide +kernel)) ?_
  refine ak (ok_aload_n (k := 0) rfl (by decide +kernel)) ?_
  refine ak (ok_iload_n (k := 2) rfl (by decide +kernel)) ?_
  refine ak (ok_invV (r := 0) (kF_isTown hsd l) qF_isTown ck10 kd0 iF_isTown tw570 tw1 (by decide) tw568 (by decide +kernel)) ?_
  refine ak (ok_if_ne (off := 9) (by decide) (by decide +kernel)) ?_
  refine ak (ok_aload_n (k := 0) rfl (by decide +kernel)) ?_
  refine ak (ok_iconst (n := 1) (by decide) (by decide +kernel)) ?_
  refine ak (ok_invV (r := 0) (kF_finding hsd l) qF_finding ck10 kd0 iF_finding tw557 tw0 (by decide) tw555 (by decide +kernel)) ?_
  refine ak (ok_ireturn rfl (by decide +kernel)) ?_
  refine ak (ok_aload_n (k := 0) rfl (by decide +kernel)) ?_
  refine ak (ok_get (k := 0) ck10 kd0 (by decide) (fun _ _ _ => rfl) (vf_0_0 hsd) tw522 (by decide +kernel)) ?_
  refine ak (ok_get (k := 5) ck9 kd1 (by decide) (fun _ _ _ => rfl) (vf_1_5 hsd) tw398 (by decide +kernel)) ?_
  refine ak (ok_iload_n (k := 1) rfl (by decide +kernel)) ?_
  refine ak (ok_aald (t0 := 3) (C := RX1) kd5 (by decide) rfl (vr_5 hsd) (by decide +kernel)) ?_
  refine ak (ok_astore_n (k := 3) rfl (by decide) (by decide +kernel)) ?_
  refine ak (ok_aload_n (k := 3) rfl (by decide +kernel)) ?_
  refine ak (ok_invV (r := 6) (kC_marches hsd l) qC_marches ck1 kd6 iC_marches tw623 tw624 (by decide) tw622 (by decide +kernel)) ?_
  refine ak (ok_if_ne (off := 11) (by decide) (by decide +kernel)) ?_
  refine ak (ok_aload_n (k := 3) rfl (by decide +kernel)) ?_
  refine ak (ok_get (k := 3) ck1 kd6 (by decide) (fun _ _ _ => rfl) (fun _ _ _ _ _ => trivial) tw209 (by decide +kernel)) ?_
  refine ak (ok_iload_n (k := 2) rfl (by decide +kernel)) ?_
  refine ak (ok_icmp_ne (off := 9) (by decide) (by decide +kernel)) ?_
  refine ak (ok_aload_n (k := 0) rfl (by decide +kernel)) ?_
  refine ak (ok_iconst (n := 3) (by decide) (by decide +kernel)) ?_
  refine ak (ok_invV (r := 0) (kF_finding hsd l) qF_finding ck10 kd0 iF_finding tw557 tw0 (by decide) tw555 (by decide +kernel)) ?_
  refine ak (ok_ireturn rfl (by decide +kernel)) ?_
  refine ak (ok_aload_n (k := 0) rfl (by decide +kernel)) ?_
  refine ak (ok_get (k := 0) ck10 kd0 (by decide) (fun _ _ _ => rfl) (vf_0_0 hsd) tw522 (by decide +kernel)) ?_
  refine ak (ok_aload_n (k := 3) rfl (by decide +kernel)) ?_
  refine ak (ok_get (k := 3) ck1 kd6 (by decide) (fun _ _ _ => rfl) (fun _ _ _ _ _ => trivial) tw209 (by decide +kernel)) ?_
  refine ak (ok_iload_n (k := 2) rfl (by decide +kernel)) ?_
  refine ak (ok_invV (r := 1) (kW_way hsd l) qW_way ck9 kd1 iW_way tw577 tw578 (by decide) tw587 (by decide +kernel)) ?_
  refine ak (ok_istore (by decide) (by decide +kernel)) ?_
  refine ak (ok_iload (by decide +kernel)) ?_
  refine ak (ok_ldc tw588 (by decide +kernel)) ?_
  refine ak (ok_icmp_lt (off := 9) (by decide) (by decide +kernel)) ?_
  refine ak (ok_aload_n (k := 0) rfl (by decide +kernel)) ?_
  refine ak (ok_iconst (n := 2) (by decide) (by decide +kernel)) ?_
  refine ak (ok_invV (r := 0) (kF_finding hsd l) qF_finding ck10 kd0 iF_finding tw557 tw0 (by decide) tw555 (by decide +kernel)) ?_
  refine ak (ok_ireturn rfl (by decide +kernel)) ?_
  refine ak (ok_aload_n (k := 3) rfl (by decide +kernel)) ?_
  refine ak (ok_iconst (n := (-1)) (by decide) (by decide +kernel)) ?_
  refine ak (ok_put (k := 3) ck1 kd6 (by decide) (fun _ _ _ => rfl) rfl rfl (by decide) tw209 (by decide +kernel)) ?_
  refine ak (ok_aload_n (k := 3) rfl (by decide +kernel)) ?_
  refine ak (ok_iload_n (k := 2) rfl (by decide +kernel)) ?_
  refine ak (ok_put (k := 4) ck1 kd6 (by decide) (fun _ _ _ => rfl) rfl rfl (by decide) tw211 (by decide +kernel)) ?_
  refine ak (ok_aload_n (k := 3) rfl (by decide +kernel)) ?_
  refine ak (ok_aload_n (k := 0) rfl (by decide +kernel)) ?_
  refine ak (ok_get (k := 0) ck10 kd0 (by decide) (fun _ _ _ => rfl) (vf_0_0 hsd) tw522 (by decide +kernel)) ?_
  refine ak (ok_get (k := 0) ck9 kd1 (by decide) (fun _ _ _ => rfl) (fun _ _ _ _ _ => trivial) tw387 (by decide +kernel)) ?_
  refine ak (ok_iload (by decide +kernel)) ?_
  refine ak (ok_iadd (by decide +kernel)) ?_
  refine ak (ok_put (k := 5) ck1 kd6 (by decide) (fun _ _ _ => rfl) rfl rfl (by decide) tw213 (by decide +kernel)) ?_
  refine ak (ok_aload_n (k := 3) rfl (by decide +kernel)) ?_
  refine ak (ok_get (k := 5) ck1 kd6 (by decide) (fun _ _ _ => rfl) (fun _ _ _ _ _ => trivial) tw213 (by decide +kernel)) ?_
  refine ak (ok_ireturn rfl (by decide +kernel)) ?_
  exact trivial
set_option maxRecDepth 1000000 in
theorem eF_march (x1 : Int32) (x2 : Int32) (M : Mem) : run (cF_march) (fun _ _ _ _ => none) rtI 400 (seek (cF_march) 0) [aR (0, 0, 0), aI x1, aI x2, aU, aU] [] M = mF_march x1 x2 M := id rfl
theorem lF_march {E : EV} {l : Launch} {p : Program} {e : Env} {s : State} {m : MethodId} {args : Array Value} {below : List Frame} {meth : Method} {c : Code} (A : AllOK E l 3 "FreeLances" prog_1_method_9_code 5 (some .int) outI (cF_march)) (C : Cx E p s m args meth c "FreeLances" prog_1_method_9_code 5 (some .int)) : ∀ (x1 : Int32) (x2 : Int32) (M : Mem) (res : (Int32 × Mem)), mF_march x1 x2 M = some res → Wm E p l e 3 s m args below meth c 5 0 [aR (0, 0, 0), aI x1, aI x2, aU, aU] [] M (outI res).1 (outI res).2 := by
  intro x1 x2 M res h
  refine run_at C A rfl hrtI (n := 400) ((eF_march x1 x2 M).trans h) ?_
  intro t als st M hk; cases hk
def dF_march {β : Type} : Den β := fun as M k => match as with
  | [.inr (.inr (.inl (al0, bl0, cl0))), .inl x1, .inl x2] => if al0 = 0 ∧ bl0 = 0 ∧ cl0 = 0 then (mF_march x1 x2 M).bind fun q => k (aI q.1) q.2 else none
  | _ => none
theorem wF_march {E : EV} (hsd : E.2.2.2 = 0) (l : Launch) (x1 : Int32) (x2 : Int32) (M : Mem) (q : (Int32 × Mem)) (hq : mF_march x1 x2 M = some q) : Con E l 3 yF_march prog_1_method_9_code 5 (some .int) [aR (0, 0, 0), aI x1, aI x2] M (outI q).1 (outI q).2 := by
  refine con_of iF_march (Nat.le_of_ble_eq_true rfl) ?_
  intro p e s m args below meth c C
  exact lF_march (oF_march hsd l) C x1 x2 M _ hq
theorem kF_march {E : EV} (hsd : E.2.2.2 = 0) (l : Launch) {β : Type} : DenOK E l 3 yF_march prog_1_method_9_code 5 (some .int) true (dF_march (β := β)) := by
  intro as M k res h
  unfold dF_march at h
  split at h
  ·
    split at h
    · rename_i hc
      obtain ⟨rfl, rfl, rfl⟩ := hc
      obtain ⟨q, hq, hk⟩ := Option.bind_eq_some_iff.mp h
      exact ⟨aI q.1, q.2, hk, rfl, wF_march hsd l _ _ M q hq⟩
    · cases h
  · cases h
theorem qF_march {β : Type} : RecOK 0 (dF_march (β := β)) := by
  intro as M k res h
  unfold dF_march at h
  split at h
  ·
    split at h
    · rename_i hc
      obtain ⟨rfl, rfl, rfl⟩ := hc
      exact ⟨_, _, _, rfl⟩
    · cases h
  · cases h
/-! ===== FreeLances.buy(II)I ===== -/
abbrev yF_buy : MethodName := ⟨"FreeLances", "buy", "(II)I"⟩
theorem iF_buy : MI yF_buy prog_1_method_10_code 5 (some .int) 2 := ⟨tw629, tw97, ⟨by decide, by decide⟩, by decide +kernel, by decide, by decide⟩
def cF_buy : List (Ent (Int32 × Mem)) := [(false, 0, 1, sLdA 0),
  (false, 1, 1, sLdI 1),
  (false, 2, 3, sInv 2 true dF_isCompany),
  (false, 5, 3, sIfEq 19),
  (false, 8, 1, sLdI 2),
  (false, 9, 1, sC 1),
  (false, 10, 3, sC 9999),
  (false, 13, 3, sInv 3 true dF_within),
  (false, 16, 3, sIfNe 25),
  (false, 19, 1, sLdA 0),
  (false, 20, 1, sC 1),
  (false, 21, 3, sInv 2 true dF_finding),
  (false, 24, 1, sRetI),
  (false, 25, 1, sLdA 0),
  (false, 26, 3, sGet 0 (fun w i M => aR (1, 0, 0))),
  (false, 29, 3, sGet 1 (fun w i M => aR (5, w, 0))),
  (false, 32, 1, sLdI 1),
  (false, 33, 1, sAald 5 5 6),
  (false, 34, 1, sStA 3),
  (false, 35, 1, sLdA 3),
  (false, 36, 3, sInv 1 true dC_marches),
  (false, 39, 3, sIfEq 48),
  (false, 42, 1, sLdA 0),
  (false, 43, 1, sC 3),
  (false, 44, 3, sInv 2 true dF_finding),
  (false, 47, 1, sRetI),
  (false, 48, 1, sLdA 0),
  (false, 49, 3, sGet 0 (fun w i M => aR (1, 0, 0))),
  (false, 52, 3, sGet 1 (fun w i M => aR (2, w, 0))),
  (false, 55, 1, sLdA 3),
  (false, 56, 3, sGet 6 (fun w i M => aI (M 6 w i 3))),
  (false, 59, 1, sAald 2 8 3),
  (false, 60, 2, sStA 4),
  (false, 62, 1, sLdA 3),
  (false, 63, 3, sGet 6 (fun w i M => aI (M 6 w i 0))),
  (false, 66, 1, sLdI 2),
  (false, 67, 3, sCmpLt 79),
  (false, 70, 2, sLdA 4),
  (false, 72, 3, sGet 3 (fun w i M => aI (M 3 w i 1))),
  (false, 75, 1, sLdI 2),
  (false, 76, 3, sCmpGe 85),
  (false, 79, 1, sLdA 0),
  (false, 80, 1, sC 2),
  (false, 81, 3, sInv 2 true dF_finding),
  (false, 84, 1, sRetI),
  (false, 85, 1, sLdA 3),
  (false, 86, 1, sDup),
  (false, 87, 3, sGet 6 (fun w i M => aI (M 6 w i 0))),
  (false, 90, 1, sLdI 2),
  (false, 91, 1, sBin (fun x y => x - y)),
  (false, 92, 3, sPut 6 0),
  (false, 95, 2, sLdA 4),
  (false, 97, 1, sDup),
  (false, 98, 3, sGet 3 (fun w i M => aI (M 3 w i 0))),
  (false, 101, 1, sLdI 2),
  (false, 102, 1, sBin (fun x y => x + y)),
  (false, 103, 3, sPut 3 0),
  (false, 106, 2, sLdA 4),
  (false, 108, 1, sDup),
  (false, 109, 3, sGet 3 (fun w i M => aI (M 3 w i 1))),
  (false, 112, 1, sLdI 2),
  (false, 113, 1, sBin (fun x y => x - y)),
  (false, 114, 3, sPut 3 1),
  (false, 117, 1, sLdA 3),
  (false, 118, 1, sDup),
  (false, 119, 3, sGet 6 (fun w i M => aI (M 6 w i 1))),
  (false, 122, 1, sLdI 2),
  (false, 123, 1, sBin (fun x y => x + y)),
  (false, 124, 3, sPut 6 1),
  (false, 127, 1, sLdA 3),
  (false, 128, 3, sGet 6 (fun w i M => aI (M 6 w i 1))),
  (false, 131, 1, sRetI)]
theorem oF_buy {E : EV} (hsd : E.2.2.2 = 0) (l : Launch) : AllOK E l 3 "FreeLances" prog_1_method_10_code 5 (some .int) outI (cF_buy) := by
  refine ak (ok_aload_n (k := 0) rfl (by decide +kernel)) ?_
  refine ak (ok_iload_n (k := 1) rfl (by decide +kernel)) ?_
  refine ak (ok_invV (r := 0) (kF_isCompany hsd l) qF_isCompany ck10 kd0 iF_isCompany tw620 tw2 (by decide) tw618 (by decide +kernel)) ?_
  refine ak (ok_if_eq (off := 14) (by decide) (by decide +kernel)) ?_
  refine ak (ok_iload_n (k := 2) rfl (by decide +kernel)) ?_
  refine ak (ok_iconst (n := 1) (by decide) (by decide +kernel)) ?_
  refine ak (ok_sipush (n := 9999) (by decide) (by decide +kernel)) ?_
  refine ak (ok_invS (kF_within hsd l) iF_within tw553 (by decide) tw552 (by decide +kernel)) ?_
  refine ak (ok_if_ne (off := 9) (by decide) (by decide +kernel)) ?_
  refine ak (ok_aload_n (k := 0) rfl (by decide +kernel)) ?_
  refine ak (ok_iconst (n := 1) (by decide) (by decide +kernel)) ?_
  refine ak (ok_invV (r := 0) (kF_finding hsd l) qF_finding ck10 kd0 iF_finding tw557 tw0 (by decide) tw555 (by decide +kernel)) ?_
  refine ak (ok_ireturn rfl (by decide +kernel)) ?_
  refine ak (ok_aload_n (k := 0) rfl (by decide +kernel)) ?_
  refine ak (ok_get (k := 0) ck10 kd0 (by decide) (fun _ _ _ => rfl) (vf_0_0 hsd) tw522 (by decide +kernel)) ?_
  refine ak (ok_get (k := 5) ck9 kd1 (by decide) (fun _ _ _ => rfl) (vf_1_5 hsd) tw398 (by decide +kernel)) ?_
  refine ak (ok_iload_n (k := 1) rfl (by decide +kernel)) ?_
  refine ak (ok_aald (t0 := 3) (C := RX1) kd5 (by decide) rfl (vr_5 hsd) (by decide +kernel)) ?_
  refine ak (ok_astore_n (k := 3) rfl (by decide) (by decide +kernel)) ?_
  refine ak (ok_aload_n (k := 3) rfl (by decide +kernel)) ?_
  refine ak (ok_invV (r := 6) (kC_marches hsd l) qC_marches ck1 kd6 iC_marches tw623 tw624 (by decide) tw622 (by decide +kernel)) ?_
  refine ak (ok_if_eq (off := 9) (by decide) (by decide +kernel)) ?_
  refine ak (ok_aload_n (k := 0) rfl (by decide +kernel)) ?_
  refine ak (ok_iconst (n := 3) (by decide) (by decide +kernel)) ?_
  refine ak (ok_invV (r := 0) (kF_finding hsd l) qF_finding ck10 kd0 iF_finding tw557 tw0 (by decide) tw555 (by decide +kernel)) ?_
  refine ak (ok_ireturn rfl (by decide +kernel)) ?_
  refine ak (ok_aload_n (k := 0) rfl (by decide +kernel)) ?_
  refine ak (ok_get (k := 0) ck10 kd0 (by decide) (fun _ _ _ => rfl) (vf_0_0 hsd) tw522 (by decide +kernel)) ?_
  refine ak (ok_get (k := 1) ck9 kd1 (by decide) (fun _ _ _ => rfl) (vf_1_1 hsd) tw389 (by decide +kernel)) ?_
  refine ak (ok_aload_n (k := 3) rfl (by decide +kernel)) ?_
  refine ak (ok_get (k := 3) ck1 kd6 (by decide) (fun _ _ _ => rfl) (fun _ _ _ _ _ => trivial) tw209 (by decide +kernel)) ?_
  refine ak (ok_aald (t0 := 2) (C := RX7) kd2 (by decide) rfl (vr_2 hsd) (by decide +kernel)) ?_
  refine ak (ok_astore (by decide) (by decide +kernel)) ?_
  refine ak (ok_aload_n (k := 3) rfl (by decide +kernel)) ?_
  refine ak (ok_get (k := 0) ck1 kd6 (by decide) (fun _ _ _ => rfl) (fun _ _ _ _ _ => trivial) tw200 (by decide +kernel)) ?_
  refine ak (ok_iload_n (k := 2) rfl (by decide +kernel)) ?_
  refine ak (ok_icmp_lt (off := 12) (by decide) (by decide +kernel)) ?_
  refine ak (ok_aload (by decide +kernel)) ?_
  refine ak (ok_get (k := 1) ck7 kd3 (by decide) (fun _ _ _ => rfl) (fun _ _ _ _ _ => trivial) tw178 (by decide +kernel)) ?_
  refine ak (ok_iload_n (k := 2) rfl (by decide +kernel)) ?_
  refine ak (ok_icmp_ge (off := 9) (by decide) (by decide +kernel)) ?_
  refine ak (ok_aload_n (k := 0) rfl (by decide +kernel)) ?_
  refine ak (ok_iconst (n := 2) (by decide) (by decide +kernel)) ?_
  refine ak (ok_invV (r := 0) (kF_finding hsd l) qF_finding ck10 kd0 iF_finding tw557 tw0 (by decide) tw555 (by decide +kernel)) ?_
  refine ak (ok_ireturn rfl (by decide +kernel)) ?_
  refine ak (ok_aload_n (k := 3) rfl (by decide +kernel)) ?_
  refine ak (ok_dup (by decide +kernel)) ?_
  refine ak (ok_get (k := 0) ck1 kd6 (by decide) (fun _ _ _ => rfl) (fun _ _ _ _ _ => trivial) tw200 (by decide +kernel)) ?_
  refine ak (ok_iload_n (k := 2) rfl (by decide +kernel)) ?_
  refine ak (ok_isub (by decide +kernel)) ?_
  refine ak (ok_put (k := 0) ck1 kd6 (by decide) (fun _ _ _ => rfl) rfl rfl (by decide) tw200 (by decide +kernel)) ?_
  refine ak (ok_aload (by decide +kernel)) ?_
  refine ak (ok_dup (by decide +kernel)) ?_
  refine ak (ok_get (k := 0) ck7 kd3 (by decide) (fun _ _ _ => rfl) (fun _ _ _ _ _ => trivial) tw175 (by decide +kernel)) ?_
  refine ak (ok_iload_n (k := 2) rfl (by decide +kernel)) ?_
  refine ak (ok_iadd (by decide +kernel)) ?_
  refine ak (ok_put (k := 0) ck7 kd3 (by decide) (fun _ _ _ => rfl) rfl rfl (by decide) tw175 (by decide +kernel)) ?_
  refine ak (ok_aload (by decide +kernel)) ?_
  refine ak (ok_dup (by decide +kernel)) ?_
  refine ak (ok_get (k := 1) ck7 kd3 (by decide) (fun _ _ _ => rfl) (fun _ _ _ _ _ => trivial) tw178 (by decide +kernel)) ?_
  refine ak (ok_iload_n (k := 2) rfl (by decide +kernel)) ?_
  refine ak (ok_isub (by decide +kernel)) ?_
  refine ak (ok_put (k := 1) ck7 kd3 (by decide) (fun _ _ _ => rfl) rfl rfl (by decide) tw178 (by decide +kernel)) ?_
  refine ak (ok_aload_n (k := 3) rfl (by decide +kernel)) ?_
  refine ak (ok_dup (by decide +kernel)) ?_
  refine ak (ok_get (k := 1) ck1 kd6 (by decide) (fun _ _ _ => rfl) (fun _ _ _ _ _ => trivial) tw203 (by decide +kernel)) ?_
  refine ak (ok_iload_n (k := 2) rfl (by decide +kernel)) ?_
  refine ak (ok_iadd (by decide +kernel)) ?_
  refine ak (ok_put (k := 1) ck1 kd6 (by decide) (fun _ _ _ => rfl) rfl rfl (by decide) tw203 (by decide +kernel)) ?_
  refine ak (ok_aload_n (k := 3) rfl (by decide +kernel)) ?_
  refine ak (ok_get (k := 1) ck1 kd6 (by decide) (fun _ _ _ => rfl) (fun _ _ _ _ _ => trivial) tw203 (by decide +kernel)) ?_
  refine ak (ok_ireturn rfl (by decide +kernel)) ?_
  exact trivial
set_option maxRecDepth 1000000 in
theorem eF_buy (x1 : Int32) (x2 : Int32) (M : Mem) : run (cF_buy) (fun _ _ _ _ => none) rtI 400 (seek (cF_buy) 0) [aR (0, 0, 0), aI x1, aI x2, aU, aU] [] M = mF_buy x1 x2 M := id rfl
theorem lF_buy {E : EV} {l : Launch} {p : Program} {e : Env} {s : State} {m : MethodId} {args : Array Value} {below : List Frame} {meth : Method} {c : Code} (A : AllOK E l 3 "FreeLances" prog_1_method_10_code 5 (some .int) outI (cF_buy)) (C : Cx E p s m args meth c "FreeLances" prog_1_method_10_code 5 (some .int)) : ∀ (x1 : Int32) (x2 : Int32) (M : Mem) (res : (Int32 × Mem)), mF_buy x1 x2 M = some res → Wm E p l e 3 s m args below meth c 5 0 [aR (0, 0, 0), aI x1, aI x2, aU, aU] [] M (outI res).1 (outI res).2 := by
  intro x1 x2 M res h
  refine run_at C A rfl hrtI (n := 400) ((eF_buy x1 x2 M).trans h) ?_
  intro t als st M hk; cases hk
def dF_buy {β : Type} : Den β := fun as M k => match as with
  | [.inr (.inr (.inl (al0, bl0, cl0))), .inl x1, .inl x2] => if al0 = 0 ∧ bl0 = 0 ∧ cl0 = 0 then (mF_buy x1 x2 M).bind fun q => k (aI q.1) q.2 else none
  | _ => none
theorem wF_buy {E : EV} (hsd : E.2.2.2 = 0) (l : Launch) (x1 : Int32) (x2 : Int32) (M : Mem) (q : (Int32 × Mem)) (hq : mF_buy x1 x2 M = some q) : Con E l 3 yF_buy prog_1_method_10_code 5 (some .int) [aR (0, 0, 0), aI x1, aI x2] M (outI q).1 (outI q).2 := by
  refine con_of iF_buy (Nat.le_of_ble_eq_true rfl) ?_
  intro p e s m args below meth c C
  exact lF_buy (oF_buy hsd l) C x1 x2 M _ hq
theorem kF_buy {E : EV} (hsd : E.2.2.2 = 0) (l : Launch) {β : Type} : DenOK E l 3 yF_buy prog_1_method_10_code 5 (some .int) true (dF_buy (β := β)) := by
  intro as M k res h
  unfold dF_buy at h
  split at h
  ·
    split at h
    · rename_i hc
      obtain ⟨rfl, rfl, rfl⟩ := hc
      obtain ⟨q, hq, hk⟩ := Option.bind_eq_some_iff.mp h
      exact ⟨aI q.1, q.2, hk, rfl, wF_buy hsd l _ _ M q hq⟩
    · cases h
  · cases h
theorem qF_buy {β : Type} : RecOK 0 (dF_buy (β := β)) := by
  intro as M k res h
  unfold dF_buy at h
  split at h
  ·
    split at h
    · rename_i hc
      obtain ⟨rfl, rfl, rfl⟩ := hc
      exact ⟨_, _, _, rfl⟩
    · cases h
  · cases h
/-! ===== FreeLances$Bond.isContract()Z ===== -/
abbrev yB_isContract : MethodName := ⟨"FreeLances$Bond", "isContract", "()Z"⟩
theorem iB_isContract : MI yB_isContract prog_2_method_5_code 1 (some .boolean) 0 := ⟨tw645, tw104, ⟨by decide, by decide⟩, by decide +kernel, by decide, by decide⟩
def cB_isContract : List (Ent (Int32 × Mem)) := [(false, 0, 1, sLdA 0),
  (false, 1, 3, sGet 15 (fun w i M => aI (M 15 w i 0))),
  (false, 4, 1, sC 1),
  (false, 5, 3, sCmpEq 16),
  (false, 8, 1, sLdA 0),
  (false, 9, 3, sGet 15 (fun w i M => aI (M 15 w i 0))),
  (false, 12, 1, sC 2),
  (false, 13, 3, sCmpNe 20),
  (false, 16, 1, sC 1),
  (false, 17, 3, sGoto 21),
  (false, 20, 1, sC 0),
  (false, 21, 1, sRetZ)]
theorem oB_isContract {E : EV} (hsd : E.2.2.2 = 0) (l : Launch) : AllOK E l 1 "FreeLances$Bond" prog_2_method_5_code 1 (some .boolean) outI (cB_isContract) := by
  refine ak (ok_aload_n (k := 0) rfl (by decide +kernel)) ?_
  refine ak (ok_get (k := 0) ck0 kd15 (by decide) (fun _ _ _ => rfl) (fun _ _ _ _ _ => trivial) tw324 (by decide +kernel)) ?_
  refine ak (ok_iconst (n := 1) (by decide) (by decide +kernel)) ?_
  refine ak (ok_icmp_eq (off := 11) (by decide) (by decide +kernel)) ?_
  refine ak (ok_aload_n (k := 0) rfl (by decide +kernel)) ?_
  refine ak (ok_get (k := 0) ck0 kd15 (by decide) (fun _ _ _ => rfl) (fun _ _ _ _ _ => trivial) tw324 (by decide +kernel)) ?_
  refine ak (ok_iconst (n := 2) (by decide) (by decide +kernel)) ?_
  refine ak (ok_icmp_ne (off := 7) (by decide) (by decide +kernel)) ?_
  refine ak (ok_iconst (n := 1) (by decide) (by decide +kernel)) ?_
  refine ak (ok_goto (off := 4) (by decide) (by decide +kernel)) ?_
  refine ak (ok_iconst (n := 0) (by decide) (by decide +kernel)) ?_
  refine ak (ok_zreturn rfl (by decide +kernel)) ?_
  exact trivial
set_option maxRecDepth 1000000 in
theorem eB_isContract (w0 : Nat) (i0 : Nat) (M : Mem) : run (cB_isContract) (fun _ _ _ _ => none) rtI 400 (seek (cB_isContract) 0) [aR (15, w0, i0)] [] M = mB_isContract w0 i0 M := id rfl
theorem lB_isContract {E : EV} {l : Launch} {p : Program} {e : Env} {s : State} {m : MethodId} {args : Array Value} {below : List Frame} {meth : Method} {c : Code} (A : AllOK E l 1 "FreeLances$Bond" prog_2_method_5_code 1 (some .boolean) outI (cB_isContract)) (C : Cx E p s m args meth c "FreeLances$Bond" prog_2_method_5_code 1 (some .boolean)) : ∀ (w0 : Nat) (i0 : Nat) (M : Mem) (res : (Int32 × Mem)), mB_isContract w0 i0 M = some res → Wm E p l e 1 s m args below meth c 1 0 [aR (15, w0, i0)] [] M (outI res).1 (outI res).2 := by
  intro w0 i0 M res h
  refine run_at C A rfl hrtI (n := 400) ((eB_isContract w0 i0 M).trans h) ?_
  intro t als st M hk; cases hk
def dB_isContract {β : Type} : Den β := fun as M k => match as with
  | [.inr (.inr (.inl (al0, w0, i0)))] => if al0 = 15 then (mB_isContract w0 i0 M).bind fun q => k (aI q.1) q.2 else none
  | _ => none
theorem wB_isContract {E : EV} (hsd : E.2.2.2 = 0) (l : Launch) (w0 : Nat) (i0 : Nat) (M : Mem) (q : (Int32 × Mem)) (hq : mB_isContract w0 i0 M = some q) : Con E l 1 yB_isContract prog_2_method_5_code 1 (some .boolean) [aR (15, w0, i0)] M (outI q).1 (outI q).2 := by
  refine con_of iB_isContract (Nat.le_of_ble_eq_true rfl) ?_
  intro p e s m args below meth c C
  exact lB_isContract (oB_isContract hsd l) C w0 i0 M _ hq
theorem kB_isContract {E : EV} (hsd : E.2.2.2 = 0) (l : Launch) {β : Type} : DenOK E l 1 yB_isContract prog_2_method_5_code 1 (some .boolean) true (dB_isContract (β := β)) := by
  intro as M k res h
  unfold dB_isContract at h
  split at h
  ·
    split at h
    · rename_i hc
      obtain rfl := hc
      obtain ⟨q, hq, hk⟩ := Option.bind_eq_some_iff.mp h
      exact ⟨aI q.1, q.2, hk, rfl, wB_isContract hsd l _ _ M q hq⟩
    · cases h
  · cases h
theorem qB_isContract {β : Type} : RecOK 15 (dB_isContract (β := β)) := by
  intro as M k res h
  unfold dB_isContract at h
  split at h
  ·
    split at h
    · rename_i hc
      obtain rfl := hc
      exact ⟨_, _, _, rfl⟩
    · cases h
  · cases h
/-! ===== FreeLances$Bond.isContractOf(I)Z ===== -/
abbrev yB_isContractOf : MethodName := ⟨"FreeLances$Bond", "isContractOf", "(I)Z"⟩
theorem iB_isContractOf : MI yB_isContractOf prog_2_method_6_code 2 (some .boolean) 1 := ⟨tw641, tw104, ⟨by decide, by decide⟩, by decide +kernel, by decide, by decide⟩
def cB_isContractOf : List (Ent (Int32 × Mem)) := [(false, 0, 1, sLdA 0),
  (false, 1, 3, sInv 1 true dB_isContract),
  (false, 4, 3, sIfEq 19),
  (false, 7, 1, sLdA 0),
  (false, 8, 3, sGet 15 (fun w i M => aI (M 15 w i 1))),
  (false, 11, 1, sLdI 1),
  (false, 12, 3, sCmpNe 19),
  (false, 15, 1, sC 1),
  (false, 16, 3, sGoto 20),
  (false, 19, 1, sC 0),
  (false, 20, 1, sRetZ)]
theorem oB_isContractOf {E : EV} (hsd : E.2.2.2 = 0) (l : Launch) : AllOK E l 2 "FreeLances$Bond" prog_2_method_6_code 2 (some .boolean) outI (cB_isContractOf) := by
  refine ak (ok_aload_n (k := 0) rfl (by decide +kernel)) ?_
  refine ak (ok_invV (r := 15) (kB_isContract hsd l) qB_isContract ck0 kd15 iB_isContract tw643 tw644 (by decide) tw642 (by decide +kernel)) ?_
  refine ak (ok_if_eq (off := 15) (by decide) (by decide +kernel)) ?_
  refine ak (ok_aload_n (k := 0) rfl (by decide +kernel)) ?_
  refine ak (ok_get (k := 1) ck0 kd15 (by decide) (fun _ _ _ => rfl) (fun _ _ _ _ _ => trivial) tw327 (by decide +kernel)) ?_
  refine ak (ok_iload_n (k := 1) rfl (by decide +kernel)) ?_
  refine ak (ok_icmp_ne (off := 7) (by decide) (by decide +kernel)) ?_
  refine ak (ok_iconst (n := 1) (by decide) (by decide +kernel)) ?_
  refine ak (ok_goto (off := 4) (by decide) (by decide +kernel)) ?_
  refine ak (ok_iconst (n := 0) (by decide) (by decide +kernel)) ?_
  refine ak (ok_zreturn rfl (by decide +kernel)) ?_
  exact trivial
set_option maxRecDepth 1000000 in
theorem eB_isContractOf (w0 : Nat) (i0 : Nat) (x1 : Int32) (M : Mem) : run (cB_isContractOf) (fun _ _ _ _ => none) rtI 400 (seek (cB_isContractOf) 0) [aR (15, w0, i0), aI x1] [] M = mB_isContractOf w0 i0 x1 M := id rfl
theorem lB_isContractOf {E : EV} {l : Launch} {p : Program} {e : Env} {s : State} {m : MethodId} {args : Array Value} {below : List Frame} {meth : Method} {c : Code} (A : AllOK E l 2 "FreeLances$Bond" prog_2_method_6_code 2 (some .boolean) outI (cB_isContractOf)) (C : Cx E p s m args meth c "FreeLances$Bond" prog_2_method_6_code 2 (some .boolean)) : ∀ (w0 : Nat) (i0 : Nat) (x1 : Int32) (M : Mem) (res : (Int32 × Mem)), mB_isContractOf w0 i0 x1 M = some res → Wm E p l e 2 s m args below meth c 2 0 [aR (15, w0, i0), aI x1] [] M (outI res).1 (outI res).2 := by
  intro w0 i0 x1 M res h
  refine run_at C A rfl hrtI (n := 400) ((eB_isContractOf w0 i0 x1 M).trans h) ?_
  intro t als st M hk; cases hk
def dB_isContractOf {β : Type} : Den β := fun as M k => match as with
  | [.inr (.inr (.inl (al0, w0, i0))), .inl x1] => if al0 = 15 then (mB_isContractOf w0 i0 x1 M).bind fun q => k (aI q.1) q.2 else none
  | _ => none
theorem wB_isContractOf {E : EV} (hsd : E.2.2.2 = 0) (l : Launch) (w0 : Nat) (i0 : Nat) (x1 : Int32) (M : Mem) (q : (Int32 × Mem)) (hq : mB_isContractOf w0 i0 x1 M = some q) : Con E l 2 yB_isContractOf prog_2_method_6_code 2 (some .boolean) [aR (15, w0, i0), aI x1] M (outI q).1 (outI q).2 := by
  refine con_of iB_isContractOf (Nat.le_of_ble_eq_true rfl) ?_
  intro p e s m args below meth c C
  exact lB_isContractOf (oB_isContractOf hsd l) C w0 i0 x1 M _ hq
theorem kB_isContractOf {E : EV} (hsd : E.2.2.2 = 0) (l : Launch) {β : Type} : DenOK E l 2 yB_isContractOf prog_2_method_6_code 2 (some .boolean) true (dB_isContractOf (β := β)) := by
  intro as M k res h
  unfold dB_isContractOf at h
  split at h
  ·
    split at h
    · rename_i hc
      obtain rfl := hc
      obtain ⟨q, hq, hk⟩ := Option.bind_eq_some_iff.mp h
      exact ⟨aI q.1, q.2, hk, rfl, wB_isContractOf hsd l _ _ _ M q hq⟩
    · cases h
  · cases h
theorem qB_isContractOf {β : Type} : RecOK 15 (dB_isContractOf (β := β)) := by
  intro as M k res h
  unfold dB_isContractOf at h
  split at h
  ·
    split at h
    · rename_i hc
      obtain rfl := hc
      exact ⟨_, _, _, rfl⟩
    · cases h
  · cases h
/-! ===== FreeLances$Bond.has(I)Z ===== -/
abbrev yB_has : MethodName := ⟨"FreeLances$Bond", "has", "(I)Z"⟩
theorem iB_has : MI yB_has prog_2_method_7_code 2 (some .boolean) 1 := ⟨tw649, tw104, ⟨by decide, by decide⟩, by decide +kernel, by decide, by decide⟩
def cB_has : List (Ent (Int32 × Mem)) := [(false, 0, 1, sLdA 0),
  (false, 1, 3, sGet 15 (fun w i M => aI (M 15 w i 2))),
  (false, 4, 1, sLdI 1),
  (false, 5, 3, sCmpGt 20),
  (false, 8, 1, sLdI 1),
  (false, 9, 1, sLdA 0),
  (false, 10, 3, sGet 15 (fun w i M => aI (M 15 w i 3))),
  (false, 13, 3, sCmpGt 20),
  (false, 16, 1, sC 1),
  (false, 17, 3, sGoto 21),
  (false, 20, 1, sC 0),
  (false, 21, 1, sRetZ)]
theorem oB_has {E : EV} (hsd : E.2.2.2 = 0) (l : Launch) : AllOK E l 1 "FreeLances$Bond" prog_2_method_7_code 2 (some .boolean) outI (cB_has) := by
  refine ak (ok_aload_n (k := 0) rfl (by decide +kernel)) ?_
  refine ak (ok_get (k := 2) ck0 kd15 (by decide) (fun _ _ _ => rfl) (fun _ _ _ _ _ => trivial) tw330 (by decide +kernel)) ?_
  refine ak (ok_iload_n (k := 1) rfl (by decide +kernel)) ?_
  refine ak (ok_icmp_gt (off := 15) (by decide) (by decide +kernel)) ?_
  refine ak (ok_iload_n (k := 1) rfl (by decide +kernel)) ?_
  refine ak (ok_aload_n (k := 0) rfl (by decide +kernel)) ?_
  refine ak (ok_get (k := 3) ck0 kd15 (by decide) (fun _ _ _ => rfl) (fun _ _ _ _ _ => trivial) tw333 (by decide +kernel)) ?_
  refine ak (ok_icmp_gt (off := 7) (by decide) (by decide +kernel)) ?_
  refine ak (ok_iconst (n := 1) (by decide) (by decide +kernel)) ?_
  refine ak (ok_goto (off := 4) (by decide) (by decide +kernel)) ?_
  refine ak (ok_iconst (n := 0) (by decide) (by decide +kernel)) ?_
  refine ak (ok_zreturn rfl (by decide +kernel)) ?_
  exact trivial
set_option maxRecDepth 1000000 in
theorem eB_has (w0 : Nat) (i0 : Nat) (x1 : Int32) (M : Mem) : run (cB_has) (fun _ _ _ _ => none) rtI 400 (seek (cB_has) 0) [aR (15, w0, i0), aI x1] [] M = mB_has w0 i0 x1 M := id rfl
theorem lB_has {E : EV} {l : Launch} {p : Program} {e : Env} {s : State} {m : MethodId} {args : Array Value} {below : List Frame} {meth : Method} {c : Code} (A : AllOK E l 1 "FreeLances$Bond" prog_2_method_7_code 2 (some .boolean) outI (cB_has)) (C : Cx E p s m args meth c "FreeLances$Bond" prog_2_method_7_code 2 (some .boolean)) : ∀ (w0 : Nat) (i0 : Nat) (x1 : Int32) (M : Mem) (res : (Int32 × Mem)), mB_has w0 i0 x1 M = some res → Wm E p l e 1 s m args below meth c 2 0 [aR (15, w0, i0), aI x1] [] M (outI res).1 (outI res).2 := by
  intro w0 i0 x1 M res h
  refine run_at C A rfl hrtI (n := 400) ((eB_has w0 i0 x1 M).trans h) ?_
  intro t als st M hk; cases hk
def dB_has {β : Type} : Den β := fun as M k => match as with
  | [.inr (.inr (.inl (al0, w0, i0))), .inl x1] => if al0 = 15 then (mB_has w0 i0 x1 M).bind fun q => k (aI q.1) q.2 else none
  | _ => none
theorem wB_has {E : EV} (hsd : E.2.2.2 = 0) (l : Launch) (w0 : Nat) (i0 : Nat) (x1 : Int32) (M : Mem) (q : (Int32 × Mem)) (hq : mB_has w0 i0 x1 M = some q) : Con E l 1 yB_has prog_2_method_7_code 2 (some .boolean) [aR (15, w0, i0), aI x1] M (outI q).1 (outI q).2 := by
  refine con_of iB_has (Nat.le_of_ble_eq_true rfl) ?_
  intro p e s m args below meth c C
  exact lB_has (oB_has hsd l) C w0 i0 x1 M _ hq
theorem kB_has {E : EV} (hsd : E.2.2.2 = 0) (l : Launch) {β : Type} : DenOK E l 1 yB_has prog_2_method_7_code 2 (some .boolean) true (dB_has (β := β)) := by
  intro as M k res h
  unfold dB_has at h
  split at h
  ·
    split at h
    · rename_i hc
      obtain rfl := hc
      obtain ⟨q, hq, hk⟩ := Option.bind_eq_some_iff.mp h
      exact ⟨aI q.1, q.2, hk, rfl, wB_has hsd l _ _ _ M q hq⟩
    · cases h
  · cases h
theorem qB_has {β : Type} : RecOK 15 (dB_has (β := β)) := by
  intro as M k res h
  unfold dB_has at h
  split at h
  ·
    split at h
    · rename_i hc
      obtain rfl := hc
      exact ⟨_, _, _, rfl⟩
    · cases h
  · cases h
/-! ===== FreeLances$World.served(II)I ===== -/
abbrev yW_served : MethodName := ⟨"FreeLances$World", "served", "(II)I"⟩
theorem iW_served : MI yW_served prog_11_method_17_code 4 (some .int) 2 := ⟨tw637, tw98, ⟨by decide, by decide⟩, by decide +kernel, by decide, by decide⟩
def cW_served : List (Ent (Int32 × Mem)) := [(false, 0, 1, sC 0),
  (false, 1, 1, sStI 3),
  (true, 2, 1, sLdI 3),
  (false, 3, 1, sLdA 0),
  (false, 4, 3, sGet 1 (fun w i M => aI (M 1 w i 12))),
  (false, 7, 3, sCmpGe 52),
  (false, 10, 1, sLdA 0),
  (false, 11, 3, sGet 1 (fun w i M => aR (14, w, 0))),
  (false, 14, 1, sLdI 3),
  (false, 15, 1, sAald 14 24 15),
  (false, 16, 1, sLdI 1),
  (false, 17, 3, sInv 2 true dB_isContractOf),
  (false, 20, 3, sIfEq 46),
  (false, 23, 1, sLdA 0),
  (false, 24, 3, sGet 1 (fun w i M => aR (14, w, 0))),
  (false, 27, 1, sLdI 3),
  (false, 28, 1, sAald 14 24 15),
  (false, 29, 1, sLdI 2),
  (false, 30, 3, sInv 2 true dB_has),
  (false, 33, 3, sIfEq 46),
  (false, 36, 1, sLdA 0),
  (false, 37, 3, sGet 1 (fun w i M => aR (14, w, 0))),
  (false, 40, 1, sLdI 3),
  (false, 41, 1, sAald 14 24 15),
  (false, 42, 3, sGet 15 (fun w i M => aI (M 15 w i 5))),
  (false, 45, 1, sRetI),
  (false, 46, 3, sInc 3 1),
  (false, 49, 3, sGoto 2),
  (false, 52, 1, sC (-1)),
  (false, 53, 1, sRetI)]
theorem oW_served {E : EV} (hsd : E.2.2.2 = 0) (l : Launch) : AllOK E l 3 "FreeLances$World" prog_11_method_17_code 4 (some .int) outI (cW_served) := by
  refine ak (ok_iconst (n := 0) (by decide) (by decide +kernel)) ?_
  refine ak (ok_istore_n (k := 3) rfl (by decide) (by decide +kernel)) ?_
  refine ak (ok_iload_n (k := 3) rfl (by decide +kernel)) ?_
  refine ak (ok_aload_n (k := 0) rfl (by decide +kernel)) ?_
  refine ak (ok_get (k := 12) ck9 kd1 (by decide) (fun _ _ _ => rfl) (fun _ _ _ _ _ => trivial) tw412 (by decide +kernel)) ?_
  refine ak (ok_icmp_ge (off := 45) (by decide) (by decide +kernel)) ?_
  refine ak (ok_aload_n (k := 0) rfl (by decide +kernel)) ?_
  refine ak (ok_get (k := 11) ck9 kd1 (by decide) (fun _ _ _ => rfl) (vf_1_11 hsd) tw410 (by decide +kernel)) ?_
  refine ak (ok_iload_n (k := 3) rfl (by decide +kernel)) ?_
  refine ak (ok_aald (t0 := 6) (C := RX0) kd14 (by decide) rfl (vr_14 hsd) (by decide +kernel)) ?_
  refine ak (ok_iload_n (k := 1) rfl (by decide +kernel)) ?_
  refine ak (ok_invV (r := 15) (kB_isContractOf hsd l) qB_isContractOf ck0 kd15 iB_isContractOf tw639 tw640 (by decide) tw638 (by decide +kernel)) ?_
  refine ak (ok_if_eq (off := 26) (by decide) (by decide +kernel)) ?_
  refine ak (ok_aload_n (k := 0) rfl (by decide +kernel)) ?_
  refine ak (ok_get (k := 11) ck9 kd1 (by decide) (fun _ _ _ => rfl) (vf_1_11 hsd) tw410 (by decide +kernel)) ?_
  refine ak (ok_iload_n (k := 3) rfl (by decide +kernel)) ?_
  refine ak (ok_aald (t0 := 6) (C := RX0) kd14 (by decide) rfl (vr_14 hsd) (by decide +kernel)) ?_
  refine ak (ok_iload_n (k := 2) rfl (by decide +kernel)) ?_
  refine ak (ok_invV (r := 15) (kB_has hsd l) qB_has ck0 kd15 iB_has tw647 tw648 (by decide) tw646 (by decide +kernel)) ?_
  refine ak (ok_if_eq (off := 13) (by decide) (by decide +kernel)) ?_
  refine ak (ok_aload_n (k := 0) rfl (by decide +kernel)) ?_
  refine ak (ok_get (k := 11) ck9 kd1 (by decide) (fun _ _ _ => rfl) (vf_1_11 hsd) tw410 (by decide +kernel)) ?_
  refine ak (ok_iload_n (k := 3) rfl (by decide +kernel)) ?_
  refine ak (ok_aald (t0 := 6) (C := RX0) kd14 (by decide) rfl (vr_14 hsd) (by decide +kernel)) ?_
  refine ak (ok_get (k := 5) ck0 kd15 (by decide) (fun _ _ _ => rfl) (fun _ _ _ _ _ => trivial) tw340 (by decide +kernel)) ?_
  refine ak (ok_ireturn rfl (by decide +kernel)) ?_
  refine ak (ok_iinc (n := 1) (by decide) (by decide) (by decide +kernel)) ?_
  refine ak (ok_goto (off := (-47)) (by decide) (by decide +kernel)) ?_
  refine ak (ok_iconst (n := (-1)) (by decide) (by decide +kernel)) ?_
  refine ak (ok_ireturn rfl (by decide +kernel)) ?_
  exact trivial
def KW_served_2 (j2 : Nat → Int32 → Int32 → Int32 → Mem → Option (Int32 × Mem)) : Jm (Int32 × Mem) := fun t als st M =>
  if t = 2 then (match als, st with
  | [.inr (.inr (.inl (al0, w0, cl0))), .inl x1, .inl x2, .inl x3], [] => if al0 = 1 ∧ cl0 = 0 then j2 w0 x1 x2 x3 M else none
  | _, _ => none) else
  none
set_option maxRecDepth 1000000 in
theorem eW_served_2 (j2 : Nat → Int32 → Int32 → Int32 → Mem → Option (Int32 × Mem)) (w0 : Nat) (x1 : Int32) (x2 : Int32) (x3 : Int32) (M : Mem) : run (cW_served) (KW_served_2 j2) rtI 400 (seek (cW_served) 2) [aR (1, w0, 0), aI x1, aI x2, aI x3] [] M = mW_served_2b j2 w0 x1 x2 x3 M := id rfl
theorem lW_served_2 {E : EV} {l : Launch} {p : Program} {e : Env} {s : State} {m : MethodId} {args : Array Value} {below : List Frame} {meth : Method} {c : Code} (A : AllOK E l 3 "FreeLances$World" prog_11_method_17_code 4 (some .int) outI (cW_served)) (C : Cx E p s m args meth c "FreeLances$World" prog_11_method_17_code 4 (some .int)) : ∀ (n : Nat), ∀ (w0 : Nat) (x1 : Int32) (x2 : Int32) (x3 : Int32) (M : Mem) (res : (Int32 × Mem)), mW_served_2 n w0 x1 x2 x3 M = some res → Wm E p l e 3 s m args below meth c 4 2 [aR (1, w0, 0), aI x1, aI x2, aI x3] [] M (outI res).1 (outI res).2 := by
  intro n
  induction n with
  | zero => intro _ _ _ _ M res h; cases h
  | succ n ih =>
    intro w0 x1 x2 x3 M res h
    refine run_at C A rfl hrtI (n := 400) ((eW_served_2 (mW_served_2 n) w0 x1 x2 x3 M).trans h) ?_
    intro t als st M hk
    unfold KW_served_2 at hk
    split at hk
    · rename_i ht
      subst ht
      split at hk
      · split at hk
        · rename_i hc
          obtain ⟨rfl, rfl⟩ := hc
          exact ih _ _ _ _ _ _ hk
        · cases hk
      · cases hk
    cases hk
def KW_served (j2 : Nat → Int32 → Int32 → Int32 → Mem → Option (Int32 × Mem)) : Jm (Int32 × Mem) := fun t als st M =>
  if t = 2 then (match als, st with
  | [.inr (.inr (.inl (al0, w0, cl0))), .inl x1, .inl x2, .inl x3], [] => if al0 = 1 ∧ cl0 = 0 then j2 w0 x1 x2 x3 M else none
  | _, _ => none) else
  none
set_option maxRecDepth 1000000 in
theorem eW_served (j2 : Nat → Int32 → Int32 → Int32 → Mem → Option (Int32 × Mem)) (w0 : Nat) (x1 : Int32) (x2 : Int32) (M : Mem) : run (cW_served) (KW_served j2) rtI 400 (seek (cW_served) 0) [aR (1, w0, 0), aI x1, aI x2, aU] [] M = mW_servedb j2 w0 x1 x2 M := id rfl
theorem lW_served {E : EV} {l : Launch} {p : Program} {e : Env} {s : State} {m : MethodId} {args : Array Value} {below : List Frame} {meth : Method} {c : Code} (A : AllOK E l 3 "FreeLances$World" prog_11_method_17_code 4 (some .int) outI (cW_served)) (C : Cx E p s m args meth c "FreeLances$World" prog_11_method_17_code 4 (some .int)) : ∀ (w0 : Nat) (x1 : Int32) (x2 : Int32) (M : Mem) (res : (Int32 × Mem)), mW_served w0 x1 x2 M = some res → Wm E p l e 3 s m args below meth c 4 0 [aR (1, w0, 0), aI x1, aI x2, aU] [] M (outI res).1 (outI res).2 := by
  intro w0 x1 x2 M res h
  refine run_at C A rfl hrtI (n := 400) ((eW_served (mW_served_2 fuel) w0 x1 x2 M).trans h) ?_
  intro t als st M hk
  unfold KW_served at hk
  split at hk
  · rename_i ht
    subst ht
    split at hk
    · split at hk
      · rename_i hc
        obtain ⟨rfl, rfl⟩ := hc
        exact lW_served_2 A C _ _ _ _ _ _ _ hk
      · cases hk
    · cases hk
  cases hk
def dW_served {β : Type} : Den β := fun as M k => match as with
  | [.inr (.inr (.inl (al0, w0, cl0))), .inl x1, .inl x2] => if al0 = 1 ∧ cl0 = 0 then (mW_served w0 x1 x2 M).bind fun q => k (aI q.1) q.2 else none
  | _ => none
theorem wW_served {E : EV} (hsd : E.2.2.2 = 0) (l : Launch) (w0 : Nat) (x1 : Int32) (x2 : Int32) (M : Mem) (q : (Int32 × Mem)) (hq : mW_served w0 x1 x2 M = some q) : Con E l 3 yW_served prog_11_method_17_code 4 (some .int) [aR (1, w0, 0), aI x1, aI x2] M (outI q).1 (outI q).2 := by
  refine con_of iW_served (Nat.le_of_ble_eq_true rfl) ?_
  intro p e s m args below meth c C
  exact lW_served (oW_served hsd l) C w0 x1 x2 M _ hq
theorem kW_served {E : EV} (hsd : E.2.2.2 = 0) (l : Launch) {β : Type} : DenOK E l 3 yW_served prog_11_method_17_code 4 (some .int) true (dW_served (β := β)) := by
  intro as M k res h
  unfold dW_served at h
  split at h
  ·
    split at h
    · rename_i hc
      obtain ⟨rfl, rfl⟩ := hc
      obtain ⟨q, hq, hk⟩ := Option.bind_eq_some_iff.mp h
      exact ⟨aI q.1, q.2, hk, rfl, wW_served hsd l _ _ _ M q hq⟩
    · cases h
  · cases h
theorem qW_served {β : Type} : RecOK 1 (dW_served (β := β)) := by
  intro as M k res h
  unfold dW_served at h
  split at h
  ·
    split at h
    · rename_i hc
      obtain ⟨rfl, rfl⟩ := hc
      exact ⟨_, _, _, rfl⟩
    · cases h
  · cases h
/-! ===== FreeLances.about(II)I ===== -/
abbrev yF_about : MethodName := ⟨"FreeLances", "about", "(II)I"⟩
theorem iF_about : MI yF_about prog_1_method_11_code 4 (some .int) 2 := ⟨tw633, tw97, ⟨by decide, by decide⟩, by decide +kernel, by decide, by decide⟩
def cF_about : List (Ent (Int32 × Mem)) := [(false, 0, 1, sLdA 0),
  (false, 1, 1, sLdI 1),
  (false, 2, 3, sInv 2 true dF_isCompany),
  (false, 5, 3, sIfNe 14),
  (false, 8, 1, sLdA 0),
  (false, 9, 1, sC 1),
  (false, 10, 3, sInv 2 true dF_finding),
  (false, 13, 1, sRetI),
  (false, 14, 1, sLdA 0),
  (false, 15, 3, sGet 0 (fun w i M => aR (1, 0, 0))),
  (false, 18, 3, sGet 1 (fun w i M => aR (5, w, 0))),
  (false, 21, 1, sLdI 1),
  (false, 22, 1, sAald 5 5 6),
  (false, 23, 1, sStA 3),
  (false, 24, 1, sLdI 2),
  (false, 25, 51, sSw 132 [(0, 76), (1, 81), (2, 86), (3, 91), (4, 96), (5, 101), (6, 106), (7, 122), (8, 127)]),
  (false, 76, 1, sLdA 3),
  (false, 77, 3, sGet 6 (fun w i M => aI (M 6 w i 3))),
  (false, 80, 1, sRetI),
  (false, 81, 1, sLdA 3),
  (false, 82, 3, sGet 6 (fun w i M => aI (M 6 w i 0))),
  (false, 85, 1, sRetI),
  (false, 86, 1, sLdA 3),
  (false, 87, 3, sGet 6 (fun w i M => aI (M 6 w i 1))),
  (false, 90, 1, sRetI),
  (false, 91, 1, sLdA 3),
  (false, 92, 3, sGet 6 (fun w i M => aI (M 6 w i 2))),
  (false, 95, 1, sRetI),
  (false, 96, 1, sLdA 3),
  (false, 97, 3, sGet 6 (fun w i M => aI (M 6 w i 6))),
  (false, 100, 1, sRetI),
  (false, 101, 1, sLdA 3),
  (false, 102, 3, sGet 6 (fun w i M => aI (M 6 w i 7))),
  (false, 105, 1, sRetI),
  (false, 106, 1, sLdA 0),
  (false, 107, 3, sGet 0 (fun w i M => aR (1, 0, 0))),
  (false, 110, 1, sLdI 1),
  (false, 111, 1, sLdA 0),
  (false, 112, 3, sGet 0 (fun w i M => aR (1, 0, 0))),
  (false, 115, 3, sGet 1 (fun w i M => aI (M 1 w i 0))),
  (false, 118, 3, sInv 3 true dW_served),
  (false, 121, 1, sRetI),
  (false, 122, 1, sLdA 3),
  (false, 123, 3, sGet 6 (fun w i M => aI (M 6 w i 8))),
  (false, 126, 1, sRetI),
  (false, 127, 1, sLdA 3),
  (false, 128, 3, sGet 6 (fun w i M => aI (M 6 w i 9))),
  (false, 131, 1, sRetI),
  (false, 132, 1, sLdA 0),
  (false, 133, 1, sC 1),
  (false, 134, 3, sInv 2 true dF_finding),
  (false, 137, 1, sRetI)]
theorem oF_about {E : EV} (hsd : E.2.2.2 = 0) (l : Launch) : AllOK E l 4 "FreeLances" prog_1_method_11_code 4 (some .int) outI (cF_about) := by
  refine ak (ok_aload_n (k := 0) rfl (by decide +kernel)) ?_
  refine ak (ok_iload_n (k := 1) rfl (by decide +kernel)) ?_
  refine ak (ok_invV (r := 0) (kF_isCompany hsd l) qF_isCompany ck10 kd0 iF_isCompany tw620 tw2 (by decide) tw618 (by decide +kernel)) ?_
  refine ak (ok_if_ne (off := 9) (by decide) (by decide +kernel)) ?_
  refine ak (ok_aload_n (k := 0) rfl (by decide +kernel)) ?_
  refine ak (ok_iconst (n := 1) (by decide) (by decide +kernel)) ?_
  refine ak (ok_invV (r := 0) (kF_finding hsd l) qF_finding ck10 kd0 iF_finding tw557 tw0 (by decide) tw555 (by decide +kernel)) ?_
  refine ak (ok_ireturn rfl (by decide +kernel)) ?_
  refine ak (ok_aload_n (k := 0) rfl (by decide +kernel)) ?_
  refine ak (ok_get (k := 0) ck10 kd0 (by decide) (fun _ _ _ => rfl) (vf_0_0 hsd) tw522 (by decide +kernel)) ?_
  refine ak (ok_get (k := 5) ck9 kd1 (by decide) (fun _ _ _ => rfl) (vf_1_5 hsd) tw398 (by decide +kernel)) ?_
  refine ak (ok_iload_n (k := 1) rfl (by decide +kernel)) ?_
  refine ak (ok_aald (t0 := 3) (C := RX1) kd5 (by decide) rfl (vr_5 hsd) (by decide +kernel)) ?_
  refine ak (ok_astore_n (k := 3) rfl (by decide) (by decide +kernel)) ?_
  refine ak (ok_iload_n (k := 2) rfl (by decide +kernel)) ?_
  refine ak (ok_table (df := 107) (lo := 0) (hi := 8) (offs := #[51, 56, 61, 66, 71, 76, 81, 97, 102]) (by decide) (by decide) (by decide) (by decide +kernel)) ?_
  refine ak (ok_aload_n (k := 3) rfl (by decide +kernel)) ?_
  refine ak (ok_get (k := 3) ck1 kd6 (by decide) (fun _ _ _ => rfl) (fun _ _ _ _ _ => trivial) tw209 (by decide +kernel)) ?_
  refine ak (ok_ireturn rfl (by decide +kernel)) ?_
  refine ak (ok_aload_n (k := 3) rfl (by decide +kernel)) ?_
  refine ak (ok_get (k := 0) ck1 kd6 (by decide) (fun _ _ _ => rfl) (fun _ _ _ _ _ => trivial) tw200 (by decide +kernel)) ?_
  refine ak (ok_ireturn rfl (by decide +kernel)) ?_
  refine ak (ok_aload_n (k := 3) rfl (by decide +kernel)) ?_
  refine ak (ok_get (k := 1) ck1 kd6 (by decide) (fun _ _ _ => rfl) (fun _ _ _ _ _ => trivial) tw203 (by decide +kernel)) ?_
  refine ak (ok_ireturn rfl (by decide +kernel)) ?_
  refine ak (ok_aload_n (k := 3) rfl (by decide +kernel)) ?_
  refine ak (ok_get (k := 2) ck1 kd6 (by decide) (fun _ _ _ => rfl) (fun _ _ _ _ _ => trivial) tw206 (by decide +kernel)) ?_
  refine ak (ok_ireturn rfl (by decide +kernel)) ?_
  refine ak (ok_aload_n (k := 3) rfl (by decide +kernel)) ?_
  refine ak (ok_get (k := 6) ck1 kd6 (by decide) (fun _ _ _ => rfl) (fun _ _ _ _ _ => trivial) tw216 (by decide +kernel)) ?_
  refine ak (ok_ireturn rfl (by decide +kernel)) ?_
  refine ak (ok_aload_n (k := 3) rfl (by decide +kernel)) ?_
  refine ak (ok_get (k := 7) ck1 kd6 (by decide) (fun _ _ _ => rfl) (fun _ _ _ _ _ => trivial) tw220 (by decide +kernel)) ?_
  refine ak (ok_ireturn rfl (by decide +kernel)) ?_
  refine ak (ok_aload_n (k := 0) rfl (by decide +kernel)) ?_
  refine ak (ok_get (k := 0) ck10 kd0 (by decide) (fun _ _ _ => rfl) (vf_0_0 hsd) tw522 (by decide +kernel)) ?_
  refine ak (ok_iload_n (k := 1) rfl (by decide +kernel)) ?_
  refine ak (ok_aload_n (k := 0) rfl (by decide +kernel)) ?_
  refine ak (ok_get (k := 0) ck10 kd0 (by decide) (fun _ _ _ => rfl) (vf_0_0 hsd) tw522 (by decide +kernel)) ?_
  refine ak (ok_get (k := 0) ck9 kd1 (by decide) (fun _ _ _ => rfl) (fun _ _ _ _ _ => trivial) tw387 (by decide +kernel)) ?_
  refine ak (ok_invV (r := 1) (kW_served hsd l) qW_served ck9 kd1 iW_served tw635 tw636 (by decide) tw634 (by decide +kernel)) ?_
  refine ak (ok_ireturn rfl (by decide +kernel)) ?_
  refine ak (ok_aload_n (k := 3) rfl (by decide +kernel)) ?_
  refine ak (ok_get (k := 8) ck1 kd6 (by decide) (fun _ _ _ => rfl) (fun _ _ _ _ _ => trivial) tw222 (by decide +kernel)) ?_
  refine ak (ok_ireturn rfl (by decide +kernel)) ?_
  refine ak (ok_aload_n (k := 3) rfl (by decide +kernel)) ?_
  refine ak (ok_get (k := 9) ck1 kd6 (by decide) (fun _ _ _ => rfl) (fun _ _ _ _ _ => trivial) tw225 (by decide +kernel)) ?_
  refine ak (ok_ireturn rfl (by decide +kernel)) ?_
  refine ak (ok_aload_n (k := 0) rfl (by decide +kernel)) ?_
  refine ak (ok_iconst (n := 1) (by decide) (by decide +kernel)) ?_
  refine ak (ok_invV (r := 0) (kF_finding hsd l) qF_finding ck10 kd0 iF_finding tw557 tw0 (by decide) tw555 (by decide +kernel)) ?_
  refine ak (ok_ireturn rfl (by decide +kernel)) ?_
  exact trivial
set_option maxRecDepth 1000000 in
theorem eF_about (x1 : Int32) (x2 : Int32) (M : Mem) : run (cF_about) (fun _ _ _ _ => none) rtI 400 (seek (cF_about) 0) [aR (0, 0, 0), aI x1, aI x2, aU] [] M = mF_about x1 x2 M := id rfl
theorem lF_about {E : EV} {l : Launch} {p : Program} {e : Env} {s : State} {m : MethodId} {args : Array Value} {below : List Frame} {meth : Method} {c : Code} (A : AllOK E l 4 "FreeLances" prog_1_method_11_code 4 (some .int) outI (cF_about)) (C : Cx E p s m args meth c "FreeLances" prog_1_method_11_code 4 (some .int)) : ∀ (x1 : Int32) (x2 : Int32) (M : Mem) (res : (Int32 × Mem)), mF_about x1 x2 M = some res → Wm E p l e 4 s m args below meth c 4 0 [aR (0, 0, 0), aI x1, aI x2, aU] [] M (outI res).1 (outI res).2 := by
  intro x1 x2 M res h
  refine run_at C A rfl hrtI (n := 400) ((eF_about x1 x2 M).trans h) ?_
  intro t als st M hk; cases hk
def dF_about {β : Type} : Den β := fun as M k => match as with
  | [.inr (.inr (.inl (al0, bl0, cl0))), .inl x1, .inl x2] => if al0 = 0 ∧ bl0 = 0 ∧ cl0 = 0 then (mF_about x1 x2 M).bind fun q => k (aI q.1) q.2 else none
  | _ => none
theorem wF_about {E : EV} (hsd : E.2.2.2 = 0) (l : Launch) (x1 : Int32) (x2 : Int32) (M : Mem) (q : (Int32 × Mem)) (hq : mF_about x1 x2 M = some q) : Con E l 4 yF_about prog_1_method_11_code 4 (some .int) [aR (0, 0, 0), aI x1, aI x2] M (outI q).1 (outI q).2 := by
  refine con_of iF_about (Nat.le_of_ble_eq_true rfl) ?_
  intro p e s m args below meth c C
  exact lF_about (oF_about hsd l) C x1 x2 M _ hq
theorem kF_about {E : EV} (hsd : E.2.2.2 = 0) (l : Launch) {β : Type} : DenOK E l 4 yF_about prog_1_method_11_code 4 (some .int) true (dF_about (β := β)) := by
  intro as M k res h
  unfold dF_about at h
  split at h
  ·
    split at h
    · rename_i hc
      obtain ⟨rfl, rfl, rfl⟩ := hc
      obtain ⟨q, hq, hk⟩ := Option.bind_eq_some_iff.mp h
      exact ⟨aI q.1, q.2, hk, rfl, wF_about hsd l _ _ M q hq⟩
    · cases h
  · cases h
theorem qF_about {β : Type} : RecOK 0 (dF_about (β := β)) := by
  intro as M k res h
  unfold dF_about at h
  split at h
  ·
    split at h
    · rename_i hc
      obtain ⟨rfl, rfl, rfl⟩ := hc
      exact ⟨_, _, _, rfl⟩
    · cases h
  · cases h
/-! ===== FreeLances.isMark(I)Z ===== -/
abbrev yF_isMark : MethodName := ⟨"FreeLances", "isMark", "(I)Z"⟩
theorem iF_isMark : MI yF_isMark prog_1_method_61_code 1 (some .boolean) 1 := ⟨tw656, tw97, ⟨by decide, by decide⟩, by decide +kernel, by decide, by decide⟩
def cF_isMark : List (Ent (Int32 × Mem)) := [(false, 0, 1, sLdI 0),
  (false, 1, 1, sC 0),
  (false, 2, 2, sC 99),
  (false, 4, 3, sInv 3 true dF_within),
  (false, 7, 1, sRetZ)]
theorem oF_isMark {E : EV} (hsd : E.2.2.2 = 0) (l : Launch) : AllOK E l 2 "FreeLances" prog_1_method_61_code 1 (some .boolean) outI (cF_isMark) := by
  refine ak (ok_iload_n (k := 0) rfl (by decide +kernel)) ?_
  refine ak (ok_iconst (n := 0) (by decide) (by decide +kernel)) ?_
  refine ak (ok_bipush (n := 99) (by decide) (by decide +kernel)) ?_
  refine ak (ok_invS (kF_within hsd l) iF_within tw553 (by decide) tw552 (by decide +kernel)) ?_
  refine ak (ok_zreturn rfl (by decide +kernel)) ?_
  exact trivial
set_option maxRecDepth 1000000 in
theorem eF_isMark (x0 : Int32) (M : Mem) : run (cF_isMark) (fun _ _ _ _ => none) rtI 400 (seek (cF_isMark) 0) [aI x0] [] M = mF_isMark x0 M := id rfl
theorem lF_isMark {E : EV} {l : Launch} {p : Program} {e : Env} {s : State} {m : MethodId} {args : Array Value} {below : List Frame} {meth : Method} {c : Code} (A : AllOK E l 2 "FreeLances" prog_1_method_61_code 1 (some .boolean) outI (cF_isMark)) (C : Cx E p s m args meth c "FreeLances" prog_1_method_61_code 1 (some .boolean)) : ∀ (x0 : Int32) (M : Mem) (res : (Int32 × Mem)), mF_isMark x0 M = some res → Wm E p l e 2 s m args below meth c 1 0 [aI x0] [] M (outI res).1 (outI res).2 := by
  intro x0 M res h
  refine run_at C A rfl hrtI (n := 400) ((eF_isMark x0 M).trans h) ?_
  intro t als st M hk; cases hk
def dF_isMark {β : Type} : Den β := fun as M k => match as with
  | [.inl x0] => (mF_isMark x0 M).bind fun q => k (aI q.1) q.2
  | _ => none
theorem wF_isMark {E : EV} (hsd : E.2.2.2 = 0) (l : Launch) (x0 : Int32) (M : Mem) (q : (Int32 × Mem)) (hq : mF_isMark x0 M = some q) : Con E l 2 yF_isMark prog_1_method_61_code 1 (some .boolean) [aI x0] M (outI q).1 (outI q).2 := by
  refine con_of iF_isMark (Nat.le_of_ble_eq_true rfl) ?_
  intro p e s m args below meth c C
  exact lF_isMark (oF_isMark hsd l) C x0 M _ hq
theorem kF_isMark {E : EV} (hsd : E.2.2.2 = 0) (l : Launch) {β : Type} : DenOK E l 2 yF_isMark prog_1_method_61_code 1 (some .boolean) true (dF_isMark (β := β)) := by
  intro as M k res h
  unfold dF_isMark at h
  split at h
  · obtain ⟨q, hq, hk⟩ := Option.bind_eq_some_iff.mp h
    exact ⟨aI q.1, q.2, hk, rfl, wF_isMark hsd l _ M q hq⟩
  · cases h
/-! ===== FreeLances$Lance.begin(III)V ===== -/
abbrev yL_begin : MethodName := ⟨"FreeLances$Lance", "begin", "(III)V"⟩
theorem iL_begin : MI yL_begin prog_4_method_2_code 4 none 3 := ⟨tw660, tw102, ⟨by decide, by decide⟩, by decide +kernel, by decide, by decide⟩
def cL_begin : List (Ent Mem) := [(false, 0, 1, sLdA 0),
  (false, 1, 1, sLdI 1),
  (false, 2, 3, sPut 10 0),
  (false, 5, 1, sLdA 0),
  (false, 6, 1, sLdI 2),
  (false, 7, 3, sPut 10 1),
  (false, 10, 1, sLdA 0),
  (false, 11, 1, sLdI 3),
  (false, 12, 3, sPut 10 2),
  (false, 15, 1, sLdA 0),
  (false, 16, 1, sC 0),
  (false, 17, 3, sPut 10 3),
  (false, 20, 1, sLdA 0),
  (false, 21, 1, sC (-1)),
  (false, 22, 3, sPut 10 4),
  (false, 25, 1, sRetV)]
theorem oL_begin {E : EV} (hsd : E.2.2.2 = 0) (l : Launch) : AllOK E l 1 "FreeLances$Lance" prog_4_method_2_code 4 none outV (cL_begin) := by
  refine ak (ok_aload_n (k := 0) rfl (by decide +kernel)) ?_
  refine ak (ok_iload_n (k := 1) rfl (by decide +kernel)) ?_
  refine ak (ok_put (k := 0) ck2 kd10 (by decide) (fun _ _ _ => rfl) rfl rfl (by decide) tw271 (by decide +kernel)) ?_
  refine ak (ok_aload_n (k := 0) rfl (by decide +kernel)) ?_
  refine ak (ok_iload_n (k := 2) rfl (by decide +kernel)) ?_
  refine ak (ok_put (k := 1) ck2 kd10 (by decide) (fun _ _ _ => rfl) rfl rfl (by decide) tw274 (by decide +kernel)) ?_
  refine ak (ok_aload_n (k := 0) rfl (by decide +kernel)) ?_
  refine ak (ok_iload_n (k := 3) rfl (by decide +kernel)) ?_
  refine ak (ok_put (k := 2) ck2 kd10 (by decide) (fun _ _ _ => rfl) rfl rfl (by decide) tw277 (by decide +kernel)) ?_
  refine ak (ok_aload_n (k := 0) rfl (by decide +kernel)) ?_
  refine ak (ok_iconst (n := 0) (by decide) (by decide +kernel)) ?_
  refine ak (ok_put (k := 3) ck2 kd10 (by decide) (fun _ _ _ => rfl) rfl rfl (by decide) tw280 (by decide +kernel)) ?_
  refine ak (ok_aload_n (k := 0) rfl (by decide +kernel)) ?_
  refine ak (ok_iconst (n := (-1)) (by decide) (by decide +kernel)) ?_
  refine ak (ok_put (k := 4) ck2 kd10 (by decide) (fun _ _ _ => rfl) rfl rfl (by decide) tw283 (by decide +kernel)) ?_
  refine ak (ok_return rfl (by decide +kernel)) ?_
  exact trivial
set_option maxRecDepth 1000000 in
theorem eL_begin (w0 : Nat) (i0 : Nat) (x1 : Int32) (x2 : Int32) (x3 : Int32) (M : Mem) : run (cL_begin) (fun _ _ _ _ => none) rtV 400 (seek (cL_begin) 0) [aR (10, w0, i0), aI x1, aI x2, aI x3] [] M = mL_begin w0 i0 x1 x2 x3 M := id rfl
theorem lL_begin {E : EV} {l : Launch} {p : Program} {e : Env} {s : State} {m : MethodId} {args : Array Value} {below : List Frame} {meth : Method} {c : Code} (A : AllOK E l 1 "FreeLances$Lance" prog_4_method_2_code 4 none outV (cL_begin)) (C : Cx E p s m args meth c "FreeLances$Lance" prog_4_method_2_code 4 none) : ∀ (w0 : Nat) (i0 : Nat) (x1 : Int32) (x2 : Int32) (x3 : Int32) (M : Mem) (res : Mem), mL_begin w0 i0 x1 x2 x3 M = some res → Wm E p l e 1 s m args below meth c 4 0 [aR (10, w0, i0), aI x1, aI x2, aI x3] [] M (outV res).1 (outV res).2 := by
  intro w0 i0 x1 x2 x3 M res h
  refine run_at C A rfl hrtV (n := 400) ((eL_begin w0 i0 x1 x2 x3 M).trans h) ?_
  intro t als st M hk; cases hk
def dL_begin {β : Type} : Den β := fun as M k => match as with
  | [.inr (.inr (.inl (al0, w0, i0))), .inl x1, .inl x2, .inl x3] => if al0 = 10 then (mL_begin w0 i0 x1 x2 x3 M).bind fun q => k aU q else none
  | _ => none
theorem wL_begin {E : EV} (hsd : E.2.2.2 = 0) (l : Launch) (w0 : Nat) (i0 : Nat) (x1 : Int32) (x2 : Int32) (x3 : Int32) (M : Mem) (q : Mem) (hq : mL_begin w0 i0 x1 x2 x3 M = some q) : Con E l 1 yL_begin prog_4_method_2_code 4 none [aR (10, w0, i0), aI x1, aI x2, aI x3] M (outV q).1 (outV q).2 := by
  refine con_of iL_begin (Nat.le_of_ble_eq_true rfl) ?_
  intro p e s m args below meth c C
  exact lL_begin (oL_begin hsd l) C w0 i0 x1 x2 x3 M _ hq
theorem kL_begin {E : EV} (hsd : E.2.2.2 = 0) (l : Launch) {β : Type} : DenOK E l 1 yL_begin prog_4_method_2_code 4 none false (dL_begin (β := β)) := by
  intro as M k res h
  unfold dL_begin at h
  split at h
  ·
    split at h
    · rename_i hc
      obtain rfl := hc
      obtain ⟨q, hq, hk⟩ := Option.bind_eq_some_iff.mp h
      exact ⟨aU, q, hk, rfl, wL_begin hsd l _ _ _ _ _ M q hq⟩
    · cases h
  · cases h
theorem qL_begin {β : Type} : RecOK 10 (dL_begin (β := β)) := by
  intro as M k res h
  unfold dL_begin at h
  split at h
  ·
    split at h
    · rename_i hc
      obtain rfl := hc
      exact ⟨_, _, _, rfl⟩
    · cases h
  · cases h
/-! ===== FreeLances.lance(III)I ===== -/
abbrev yF_lance : MethodName := ⟨"FreeLances", "lance", "(III)I"⟩
theorem iF_lance : MI yF_lance prog_1_method_12_code 4 (some .int) 3 := ⟨tw653, tw97, ⟨by decide, by decide⟩, by decide +kernel, by decide, by decide⟩
def cF_lance : List (Ent (Int32 × Mem)) := [(false, 0, 1, sLdA 0),
  (false, 1, 1, sLdI 1),
  (false, 2, 3, sInv 2 true dF_isCompany),
  (false, 5, 3, sIfEq 27),
  (false, 8, 1, sLdI 2),
  (false, 9, 3, sInv 1 true dF_isMark),
  (false, 12, 3, sIfEq 27),
  (false, 15, 1, sLdI 3),
  (false, 16, 2, sC 100),
  (false, 18, 3, sC 180),
  (false, 21, 3, sInv 3 true dF_within),
  (false, 24, 3, sIfNe 33),
  (false, 27, 1, sLdA 0),
  (false, 28, 1, sC 1),
  (false, 29, 3, sInv 2 true dF_finding),
  (false, 32, 1, sRetI),
  (false, 33, 1, sLdA 0),
  (false, 34, 3, sGet 0 (fun w i M => aR (1, 0, 0))),
  (false, 37, 3, sGet 1 (fun w i M => aI (M 1 w i 8))),
  (false, 40, 2, sC 40),
  (false, 42, 3, sCmpLt 51),
  (false, 45, 1, sLdA 0),
  (false, 46, 1, sC 4),
  (false, 47, 3, sInv 2 true dF_finding),
  (false, 50, 1, sRetI),
  (false, 51, 1, sLdA 0),
  (false, 52, 3, sGet 0 (fun w i M => aR (1, 0, 0))),
  (false, 55, 3, sGet 1 (fun w i M => aR (9, w, 0))),
  (false, 58, 1, sLdA 0),
  (false, 59, 3, sGet 0 (fun w i M => aR (1, 0, 0))),
  (false, 62, 3, sGet 1 (fun w i M => aI (M 1 w i 8))),
  (false, 65, 1, sAald 9 40 10),
  (false, 66, 1, sLdI 1),
  (false, 67, 1, sLdI 2),
  (false, 68, 1, sLdI 3),
  (false, 69, 3, sInv 4 false dL_begin),
  (false, 72, 1, sLdA 0),
  (false, 73, 3, sGet 0 (fun w i M => aR (1, 0, 0))),
  (false, 76, 3, sGet 1 (fun w i M => aR (5, w, 0))),
  (false, 79, 1, sLdI 1),
  (false, 80, 1, sAald 5 5 6),
  (false, 81, 1, sDup),
  (false, 82, 3, sGet 6 (fun w i M => aI (M 6 w i 6))),
  (false, 85, 1, sC 1),
  (false, 86, 1, sBin (fun x y => x + y)),
  (false, 87, 3, sPut 6 6),
  (false, 90, 1, sLdA 0),
  (false, 91, 3, sGet 0 (fun w i M => aR (1, 0, 0))),
  (false, 94, 1, sDup),
  (false, 95, 3, sGet 1 (fun w i M => aI (M 1 w i 8))),
  (false, 98, 1, sDupX1),
  (false, 99, 1, sC 1),
  (false, 100, 1, sBin (fun x y => x + y)),
  (false, 101, 3, sPut 1 8),
  (false, 104, 1, sRetI)]
theorem oF_lance {E : EV} (hsd : E.2.2.2 = 0) (l : Launch) : AllOK E l 3 "FreeLances" prog_1_method_12_code 4 (some .int) outI (cF_lance) := by
  refine ak (ok_aload_n (k := 0) rfl (by decide +kernel)) ?_
  refine ak (ok_iload_n (k := 1) rfl (by decide +kernel)) ?_
  refine ak (ok_invV (r := 0) (kF_isCompany hsd l) qF_isCompany ck10 kd0 iF_isCompany tw620 tw2 (by decide) tw618 (by decide +kernel)) ?_
  refine ak (ok_if_eq (off := 22) (by decide) (by decide +kernel)) ?_
  refine ak (ok_iload_n (k := 2) rfl (by decide +kernel)) ?_
  refine ak (ok_invS (kF_isMark hsd l) iF_isMark tw655 (by decide) tw654 (by decide +kernel)) ?_
  refine ak (ok_if_eq (off := 15) (by decide) (by decide +kernel)) ?_
  refine ak (ok_iload_n (k := 3) rfl (by decide +kernel)) ?_
  refine ak (ok_bipush (n := 100) (by decide) (by decide +kernel)) ?_
  refine ak (ok_sipush (n := 180) (by decide) (by decide +kernel)) ?_
  refine ak (ok_invS (kF_within hsd l) iF_within tw553 (by decide) tw552 (by decide +kernel)) ?_
  refine ak (ok_if_ne (off := 9) (by decide) (by decide +kernel)) ?_
  refine ak (ok_aload_n (k := 0) rfl (by decide +kernel)) ?_
  refine ak (ok_iconst (n := 1) (by decide) (by decide +kernel)) ?_
  refine ak (ok_invV (r := 0) (kF_finding hsd l) qF_finding ck10 kd0 iF_finding tw557 tw0 (by decide) tw555 (by decide +kernel)) ?_
  refine ak (ok_ireturn rfl (by decide +kernel)) ?_
  refine ak (ok_aload_n (k := 0) rfl (by decide +kernel)) ?_
  refine ak (ok_get (k := 0) ck10 kd0 (by decide) (fun _ _ _ => rfl) (vf_0_0 hsd) tw522 (by decide +kernel)) ?_
  refine ak (ok_get (k := 8) ck9 kd1 (by decide) (fun _ _ _ => rfl) (fun _ _ _ _ _ => trivial) tw405 (by decide +kernel)) ?_
  refine ak (ok_bipush (n := 40) (by decide) (by decide +kernel)) ?_
  refine ak (ok_icmp_lt (off := 9) (by decide) (by decide +kernel)) ?_
  refine ak (ok_aload_n (k := 0) rfl (by decide +kernel)) ?_
  refine ak (ok_iconst (n := 4) (by decide) (by decide +kernel)) ?_
  refine ak (ok_invV (r := 0) (kF_finding hsd l) qF_finding ck10 kd0 iF_finding tw557 tw0 (by decide) tw555 (by decide +kernel)) ?_
  refine ak (ok_ireturn rfl (by decide +kernel)) ?_
  refine ak (ok_aload_n (k := 0) rfl (by decide +kernel)) ?_
  refine ak (ok_get (k := 0) ck10 kd0 (by decide) (fun _ _ _ => rfl) (vf_0_0 hsd) tw522 (by decide +kernel)) ?_
  refine ak (ok_get (k := 7) ck9 kd1 (by decide) (fun _ _ _ => rfl) (vf_1_7 hsd) tw403 (by decide +kernel)) ?_
  refine ak (ok_aload_n (k := 0) rfl (by decide +kernel)) ?_
  refine ak (ok_get (k := 0) ck10 kd0 (by decide) (fun _ _ _ => rfl) (vf_0_0 hsd) tw522 (by decide +kernel)) ?_
  refine ak (ok_get (k := 8) ck9 kd1 (by decide) (fun _ _ _ => rfl) (fun _ _ _ _ _ => trivial) tw405 (by decide +kernel)) ?_
  refine ak (ok_aald (t0 := 4) (C := RX2) kd9 (by decide) rfl (vr_9 hsd) (by decide +kernel)) ?_
  refine ak (ok_iload_n (k := 1) rfl (by decide +kernel)) ?_
  refine ak (ok_iload_n (k := 2) rfl (by decide +kernel)) ?_
  refine ak (ok_iload_n (k := 3) rfl (by decide +kernel)) ?_
  refine ak (ok_invV (r := 10) (kL_begin hsd l) qL_begin ck2 kd10 iL_begin tw658 tw659 (by decide) tw657 (by decide +kernel)) ?_
  refine ak (ok_aload_n (k := 0) rfl (by decide +kernel)) ?_
  refine ak (ok_get (k := 0) ck10 kd0 (by decide) (fun _ _ _ => rfl) (vf_0_0 hsd) tw522 (by decide +kernel)) ?_
  refine ak (ok_get (k := 5) ck9 kd1 (by decide) (fun _ _ _ => rfl) (vf_1_5 hsd) tw398 (by decide +kernel)) ?_
  refine ak (ok_iload_n (k := 1) rfl (by decide +kernel)) ?_
  refine ak (ok_aald (t0 := 3) (C := RX1) kd5 (by decide) rfl (vr_5 hsd) (by decide +kernel)) ?_
  refine ak (ok_dup (by decide +kernel)) ?_
  refine ak (ok_get (k := 6) ck1 kd6 (by decide) (fun _ _ _ => rfl) (fun _ _ _ _ _ => trivial) tw216 (by decide +kernel)) ?_
  refine ak (ok_iconst (n := 1) (by decide) (by decide +kernel)) ?_
  refine ak (ok_iadd (by decide +kernel)) ?_
  refine ak (ok_put (k := 6) ck1 kd6 (by decide) (fun _ _ _ => rfl) rfl rfl (by decide) tw216 (by decide +kernel)) ?_
  refine ak (ok_aload_n (k := 0) rfl (by decide +kernel)) ?_
  refine ak (ok_get (k := 0) ck10 kd0 (by decide) (fun _ _ _ => rfl) (vf_0_0 hsd) tw522 (by decide +kernel)) ?_
  refine ak (ok_dup (by decide +kernel)) ?_
  refine ak (ok_get (k := 8) ck9 kd1 (by decide) (fun _ _ _ => rfl) (fun _ _ _ _ _ => trivial) tw405 (by decide +kernel)) ?_
  refine ak (ok_dup_x1 (by decide +kernel)) ?_
  refine ak (ok_iconst (n := 1) (by decide) (by decide +kernel)) ?_
  refine ak (ok_iadd (by decide +kernel)) ?_
  refine ak (ok_put (k := 8) ck9 kd1 (by decide) (fun _ _ _ => rfl) rfl rfl (by decide) tw405 (by decide +kernel)) ?_
  refine ak (ok_ireturn rfl (by decide +kernel)) ?_
  exact trivial
set_option maxRecDepth 1000000 in
theorem eF_lance (x1 : Int32) (x2 : Int32) (x3 : Int32) (M : Mem) : run (cF_lance) (fun _ _ _ _ => none) rtI 400 (seek (cF_lance) 0) [aR (0, 0, 0), aI x1, aI x2, aI x3] [] M = mF_lance x1 x2 x3 M := id rfl
theorem lF_lance {E : EV} {l : Launch} {p : Program} {e : Env} {s : State} {m : MethodId} {args : Array Value} {below : List Frame} {meth : Method} {c : Code} (A : AllOK E l 3 "FreeLances" prog_1_method_12_code 4 (some .int) outI (cF_lance)) (C : Cx E p s m args meth c "FreeLances" prog_1_method_12_code 4 (some .int)) : ∀ (x1 : Int32) (x2 : Int32) (x3 : Int32) (M : Mem) (res : (Int32 × Mem)), mF_lance x1 x2 x3 M = some res → Wm E p l e 3 s m args below meth c 4 0 [aR (0, 0, 0), aI x1, aI x2, aI x3] [] M (outI res).1 (outI res).2 := by
  intro x1 x2 x3 M res h
  refine run_at C A rfl hrtI (n := 400) ((eF_lance x1 x2 x3 M).trans h) ?_
  intro t als st M hk; cases hk
def dF_lance {β : Type} : Den β := fun as M k => match as with
  | [.inr (.inr (.inl (al0, bl0, cl0))), .inl x1, .inl x2, .inl x3] => if al0 = 0 ∧ bl0 = 0 ∧ cl0 = 0 then (mF_lance x1 x2 x3 M).bind fun q => k (aI q.1) q.2 else none
  | _ => none
theorem wF_lance {E : EV} (hsd : E.2.2.2 = 0) (l : Launch) (x1 : Int32) (x2 : Int32) (x3 : Int32) (M : Mem) (q : (Int32 × Mem)) (hq : mF_lance x1 x2 x3 M = some q) : Con E l 3 yF_lance prog_1_method_12_code 4 (some .int) [aR (0, 0, 0), aI x1, aI x2, aI x3] M (outI q).1 (outI q).2 := by
  refine con_of iF_lance (Nat.le_of_ble_eq_true rfl) ?_
  intro p e s m args below meth c C
  exact lF_lance (oF_lance hsd l) C x1 x2 x3 M _ hq
theorem kF_lance {E : EV} (hsd : E.2.2.2 = 0) (l : Launch) {β : Type} : DenOK E l 3 yF_lance prog_1_method_12_code 4 (some .int) true (dF_lance (β := β)) := by
  intro as M k res h
  unfold dF_lance at h
  split at h
  ·
    split at h
    · rename_i hc
      obtain ⟨rfl, rfl, rfl⟩ := hc
      obtain ⟨q, hq, hk⟩ := Option.bind_eq_some_iff.mp h
      exact ⟨aI q.1, q.2, hk, rfl, wF_lance hsd l _ _ _ M q hq⟩
    · cases h
  · cases h
theorem qF_lance {β : Type} : RecOK 0 (dF_lance (β := β)) := by
  intro as M k res h
  unfold dF_lance at h
  split at h
  ·
    split at h
    · rename_i hc
      obtain ⟨rfl, rfl, rfl⟩ := hc
      exact ⟨_, _, _, rfl⟩
    · cases h
  · cases h
/-! ===== FreeLances.isLance(I)Z ===== -/
abbrev yF_isLance : MethodName := ⟨"FreeLances", "isLance", "(I)Z"⟩
theorem iF_isLance : MI yF_isLance prog_1_method_65_code 2 (some .boolean) 1 := ⟨tw668, tw97, ⟨by decide, by decide⟩, by decide +kernel, by decide, by decide⟩
def cF_isLance : List (Ent (Int32 × Mem)) := [(false, 0, 1, sLdI 1),
  (false, 1, 1, sC 0),
  (false, 2, 1, sLdA 0),
  (false, 3, 3, sGet 0 (fun w i M => aR (1, 0, 0))),
  (false, 6, 3, sGet 1 (fun w i M => aI (M 1 w i 8))),
  (false, 9, 1, sC 1),
  (false, 10, 1, sBin (fun x y => x - y)),
  (false, 11, 3, sInv 3 true dF_within),
  (false, 14, 1, sRetZ)]
theorem oF_isLance {E : EV} (hsd : E.2.2.2 = 0) (l : Launch) : AllOK E l 2 "FreeLances" prog_1_method_65_code 2 (some .boolean) outI (cF_isLance) := by
  refine ak (ok_iload_n (k := 1) rfl (by decide +kernel)) ?_
  refine ak (ok_iconst (n := 0) (by decide) (by decide +kernel)) ?_
  refine ak (ok_aload_n (k := 0) rfl (by decide +kernel)) ?_
  refine ak (ok_get (k := 0) ck10 kd0 (by decide) (fun _ _ _ => rfl) (vf_0_0 hsd) tw522 (by decide +kernel)) ?_
  refine ak (ok_get (k := 8) ck9 kd1 (by decide) (fun _ _ _ => rfl) (fun _ _ _ _ _ => trivial) tw405 (by decide +kernel)) ?_
  refine ak (ok_iconst (n := 1) (by decide) (by decide +kernel)) ?_
  refine ak (ok_isub (by decide +kernel)) ?_
  refine ak (ok_invS (kF_within hsd l) iF_within tw553 (by decide) tw552 (by decide +kernel)) ?_
  refine ak (ok_zreturn rfl (by decide +kernel)) ?_
  exact trivial
set_option maxRecDepth 1000000 in
theorem eF_isLance (x1 : Int32) (M : Mem) : run (cF_isLance) (fun _ _ _ _ => none) rtI 400 (seek (cF_isLance) 0) [aR (0, 0, 0), aI x1] [] M = mF_isLance x1 M := id rfl
theorem lF_isLance {E : EV} {l : Launch} {p : Program} {e : Env} {s : State} {m : MethodId} {args : Array Value} {below : List Frame} {meth : Method} {c : Code} (A : AllOK E l 2 "FreeLances" prog_1_method_65_code 2 (some .boolean) outI (cF_isLance)) (C : Cx E p s m args meth c "FreeLances" prog_1_method_65_code 2 (some .boolean)) : ∀ (x1 : Int32) (M : Mem) (res : (Int32 × Mem)), mF_isLance x1 M = some res → Wm E p l e 2 s m args below meth c 2 0 [aR (0, 0, 0), aI x1] [] M (outI res).1 (outI res).2 := by
  intro x1 M res h
  refine run_at C A rfl hrtI (n := 400) ((eF_isLance x1 M).trans h) ?_
  intro t als st M hk; cases hk
def dF_isLance {β : Type} : Den β := fun as M k => match as with
  | [.inr (.inr (.inl (al0, bl0, cl0))), .inl x1] => if al0 = 0 ∧ bl0 = 0 ∧ cl0 = 0 then (mF_isLance x1 M).bind fun q => k (aI q.1) q.2 else none
  | _ => none
theorem wF_isLance {E : EV} (hsd : E.2.2.2 = 0) (l : Launch) (x1 : Int32) (M : Mem) (q : (Int32 × Mem)) (hq : mF_isLance x1 M = some q) : Con E l 2 yF_isLance prog_1_method_65_code 2 (some .boolean) [aR (0, 0, 0), aI x1] M (outI q).1 (outI q).2 := by
  refine con_of iF_isLance (Nat.le_of_ble_eq_true rfl) ?_
  intro p e s m args below meth c C
  exact lF_isLance (oF_isLance hsd l) C x1 M _ hq
theorem kF_isLance {E : EV} (hsd : E.2.2.2 = 0) (l : Launch) {β : Type} : DenOK E l 2 yF_isLance prog_1_method_65_code 2 (some .boolean) true (dF_isLance (β := β)) := by
  intro as M k res h
  unfold dF_isLance at h
  split at h
  ·
    split at h
    · rename_i hc
      obtain ⟨rfl, rfl, rfl⟩ := hc
      obtain ⟨q, hq, hk⟩ := Option.bind_eq_some_iff.mp h
      exact ⟨aI q.1, q.2, hk, rfl, wF_isLance hsd l _ M q hq⟩
    · cases h
  · cases h
theorem qF_isLance {β : Type} : RecOK 0 (dF_isLance (β := β)) := by
  intro as M k res h
  unfold dF_isLance at h
  split at h
  ·
    split at h
    · rename_i hc
      obtain ⟨rfl, rfl, rfl⟩ := hc
      exact ⟨_, _, _, rfl⟩
    · cases h
  · cases h
/-! ===== FreeLances.lanceIs(II)I ===== -/
abbrev yF_lanceIs : MethodName := ⟨"FreeLances", "lanceIs", "(II)I"⟩
theorem iF_lanceIs : MI yF_lanceIs prog_1_method_13_code 4 (some .int) 2 := ⟨tw664, tw97, ⟨by decide, by decide⟩, by decide +kernel, by decide, by decide⟩
def cF_lanceIs : List (Ent (Int32 × Mem)) := [(false, 0, 1, sLdA 0),
  (false, 1, 1, sLdI 1),
  (false, 2, 3, sInv 2 true dF_isLance),
  (false, 5, 3, sIfNe 14),
  (false, 8, 1, sLdA 0),
  (false, 9, 1, sC 1),
  (false, 10, 3, sInv 2 true dF_finding),
  (false, 13, 1, sRetI),
  (false, 14, 1, sLdA 0),
  (false, 15, 3, sGet 0 (fun w i M => aR (1, 0, 0))),
  (false, 18, 3, sGet 1 (fun w i M => aR (9, w, 0))),
  (false, 21, 1, sLdI 1),
  (false, 22, 1, sAald 9 40 10),
  (false, 23, 1, sStA 3),
  (false, 24, 1, sLdI 2),
  (false, 25, 35, sSw 85 [(0, 60), (1, 65), (2, 70), (3, 75), (4, 80)]),
  (false, 60, 1, sLdA 3),
  (false, 61, 3, sGet 10 (fun w i M => aI (M 10 w i 0))),
  (false, 64, 1, sRetI),
  (false, 65, 1, sLdA 3),
  (false, 66, 3, sGet 10 (fun w i M => aI (M 10 w i 1))),
  (false, 69, 1, sRetI),
  (false, 70, 1, sLdA 3),
  (false, 71, 3, sGet 10 (fun w i M => aI (M 10 w i 2))),
  (false, 74, 1, sRetI),
  (false, 75, 1, sLdA 3),
  (false, 76, 3, sGet 10 (fun w i M => aI (M 10 w i 3))),
  (false, 79, 1, sRetI),
  (false, 80, 1, sLdA 3),
  (false, 81, 3, sGet 10 (fun w i M => aI (M 10 w i 4))),
  (false, 84, 1, sRetI),
  (false, 85, 1, sLdA 0),
  (false, 86, 1, sC 1),
  (false, 87, 3, sInv 2 true dF_finding),
  (false, 90, 1, sRetI)]
theorem oF_lanceIs {E : EV} (hsd : E.2.2.2 = 0) (l : Launch) : AllOK E l 3 "FreeLances" prog_1_method_13_code 4 (some .int) outI (cF_lanceIs) := by
  refine ak (ok_aload_n (k := 0) rfl (by decide +kernel)) ?_
  refine ak (ok_iload_n (k := 1) rfl (by decide +kernel)) ?_
  refine ak (ok_invV (r := 0) (kF_isLance hsd l) qF_isLance ck10 kd0 iF_isLance tw667 tw3 (by decide) tw665 (by decide +kernel)) ?_
  refine ak (ok_if_ne (off := 9) (by decide) (by decide +kernel)) ?_
  refine ak (ok_aload_n (k := 0) rfl (by decide +kernel)) ?_
  refine ak (ok_iconst (n := 1) (by decide) (by decide +kernel)) ?_
  refine ak (ok_invV (r := 0) (kF_finding hsd l) qF_finding ck10 kd0 iF_finding tw557 tw0 (by decide) tw555 (by decide +kernel)) ?_
  refine ak (ok_ireturn rfl (by decide +kernel)) ?_
  refine ak (ok_aload_n (k := 0) rfl (by decide +kernel)) ?_
  refine ak (ok_get (k := 0) ck10 kd0 (by decide) (fun _ _ _ => rfl) (vf_0_0 hsd) tw522 (by decide +kernel)) ?_
  refine ak (ok_get (k := 7) ck9 kd1 (by decide) (fun _ _ _ => rfl) (vf_1_7 hsd) tw403 (by decide +kernel)) ?_
  refine ak (ok_iload_n (k := 1) rfl (by decide +kernel)) ?_
  refine ak (ok_aald (t0 := 4) (C := RX2) kd9 (by decide) rfl (vr_9 hsd) (by decide +kernel)) ?_
  refine ak (ok_astore_n (k := 3) rfl (by decide) (by decide +kernel)) ?_
  refine ak (ok_iload_n (k := 2) rfl (by decide +kernel)) ?_
  refine ak (ok_table (df := 60) (lo := 0) (hi := 4) (offs := #[35, 40, 45, 50, 55]) (by decide) (by decide) (by decide) (by decide +kernel)) ?_
  refine ak (ok_aload_n (k := 3) rfl (by decide +kernel)) ?_
  refine ak (ok_get (k := 0) ck2 kd10 (by decide) (fun _ _ _ => rfl) (fun _ _ _ _ _ => trivial) tw273 (by decide +kernel)) ?_
  refine ak (ok_ireturn rfl (by decide +kernel)) ?_
  refine ak (ok_aload_n (k := 3) rfl (by decide +kernel)) ?_
  refine ak (ok_get (k := 1) ck2 kd10 (by decide) (fun _ _ _ => rfl) (fun _ _ _ _ _ => trivial) tw275 (by decide +kernel)) ?_
  refine ak (ok_ireturn rfl (by decide +kernel)) ?_
  refine ak (ok_aload_n (k := 3) rfl (by decide +kernel)) ?_
  refine ak (ok_get (k := 2) ck2 kd10 (by decide) (fun _ _ _ => rfl) (fun _ _ _ _ _ => trivial) tw278 (by decide +kernel)) ?_
  refine ak (ok_ireturn rfl (by decide +kernel)) ?_
  refine ak (ok_aload_n (k := 3) rfl (by decide +kernel)) ?_
  refine ak (ok_get (k := 3) ck2 kd10 (by decide) (fun _ _ _ => rfl) (fun _ _ _ _ _ => trivial) tw282 (by decide +kernel)) ?_
  refine ak (ok_ireturn rfl (by decide +kernel)) ?_
  refine ak (ok_aload_n (k := 3) rfl (by decide +kernel)) ?_
  refine ak (ok_get (k := 4) ck2 kd10 (by decide) (fun _ _ _ => rfl) (fun _ _ _ _ _ => trivial) tw284 (by decide +kernel)) ?_
  refine ak (ok_ireturn rfl (by decide +kernel)) ?_
  refine ak (ok_aload_n (k := 0) rfl (by decide +kernel)) ?_
  refine ak (ok_iconst (n := 1) (by decide) (by decide +kernel)) ?_
  refine ak (ok_invV (r := 0) (kF_finding hsd l) qF_finding ck10 kd0 iF_finding tw557 tw0 (by decide) tw555 (by decide +kernel)) ?_
  refine ak (ok_ireturn rfl (by decide +kernel)) ?_
  exact trivial
set_option maxRecDepth 1000000 in
theorem eF_lanceIs (x1 : Int32) (x2 : Int32) (M : Mem) : run (cF_lanceIs) (fun _ _ _ _ => none) rtI 400 (seek (cF_lanceIs) 0) [aR (0, 0, 0), aI x1, aI x2, aU] [] M = mF_lanceIs x1 x2 M := id rfl
theorem lF_lanceIs {E : EV} {l : Launch} {p : Program} {e : Env} {s : State} {m : MethodId} {args : Array Value} {below : List Frame} {meth : Method} {c : Code} (A : AllOK E l 3 "FreeLances" prog_1_method_13_code 4 (some .int) outI (cF_lanceIs)) (C : Cx E p s m args meth c "FreeLances" prog_1_method_13_code 4 (some .int)) : ∀ (x1 : Int32) (x2 : Int32) (M : Mem) (res : (Int32 × Mem)), mF_lanceIs x1 x2 M = some res → Wm E p l e 3 s m args below meth c 4 0 [aR (0, 0, 0), aI x1, aI x2, aU] [] M (outI res).1 (outI res).2 := by
  intro x1 x2 M res h
  refine run_at C A rfl hrtI (n := 400) ((eF_lanceIs x1 x2 M).trans h) ?_
  intro t als st M hk; cases hk
def dF_lanceIs {β : Type} : Den β := fun as M k => match as with
  | [.inr (.inr (.inl (al0, bl0, cl0))), .inl x1, .inl x2] => if al0 = 0 ∧ bl0 = 0 ∧ cl0 = 0 then (mF_lanceIs x1 x2 M).bind fun q => k (aI q.1) q.2 else none
  | _ => none
theorem wF_lanceIs {E : EV} (hsd : E.2.2.2 = 0) (l : Launch) (x1 : Int32) (x2 : Int32) (M : Mem) (q : (Int32 × Mem)) (hq : mF_lanceIs x1 x2 M = some q) : Con E l 3 yF_lanceIs prog_1_method_13_code 4 (some .int) [aR (0, 0, 0), aI x1, aI x2] M (outI q).1 (outI q).2 := by
  refine con_of iF_lanceIs (Nat.le_of_ble_eq_true rfl) ?_
  intro p e s m args below meth c C
  exact lF_lanceIs (oF_lanceIs hsd l) C x1 x2 M _ hq
theorem kF_lanceIs {E : EV} (hsd : E.2.2.2 = 0) (l : Launch) {β : Type} : DenOK E l 3 yF_lanceIs prog_1_method_13_code 4 (some .int) true (dF_lanceIs (β := β)) := by
  intro as M k res h
  unfold dF_lanceIs at h
  split at h
  ·
    split at h
    · rename_i hc
      obtain ⟨rfl, rfl, rfl⟩ := hc
      obtain ⟨q, hq, hk⟩ := Option.bind_eq_some_iff.mp h
      exact ⟨aI q.1, q.2, hk, rfl, wF_lanceIs hsd l _ _ M q hq⟩
    · cases h
  · cases h
theorem qF_lanceIs {β : Type} : RecOK 0 (dF_lanceIs (β := β)) := by
  intro as M k res h
  unfold dF_lanceIs at h
  split at h
  ·
    split at h
    · rename_i hc
      obtain ⟨rfl, rfl, rfl⟩ := hc
      exact ⟨_, _, _, rfl⟩
    · cases h
  · cases h
/-! ===== FreeLances$Lance.present()Z ===== -/
abbrev yL_present : MethodName := ⟨"FreeLances$Lance", "present", "()Z"⟩
theorem iL_present : MI yL_present prog_4_method_4_code 1 (some .boolean) 0 := ⟨tw676, tw102, ⟨by decide, by decide⟩, by decide +kernel, by decide, by decide⟩
def cL_present : List (Ent (Int32 × Mem)) := [(false, 0, 1, sLdA 0),
  (false, 1, 3, sGet 10 (fun w i M => aI (M 10 w i 3))),
  (false, 4, 3, sIfEq 15),
  (false, 7, 1, sLdA 0),
  (false, 8, 3, sGet 10 (fun w i M => aI (M 10 w i 3))),
  (false, 11, 1, sC 1),
  (false, 12, 3, sCmpNe 19),
  (false, 15, 1, sC 1),
  (false, 16, 3, sGoto 20),
  (false, 19, 1, sC 0),
  (false, 20, 1, sRetZ)]
theorem oL_present {E : EV} (hsd : E.2.2.2 = 0) (l : Launch) : AllOK E l 1 "FreeLances$Lance" prog_4_method_4_code 1 (some .boolean) outI (cL_present) := by
  refine ak (ok_aload_n (k := 0) rfl (by decide +kernel)) ?_
  refine ak (ok_get (k := 3) ck2 kd10 (by decide) (fun _ _ _ => rfl) (fun _ _ _ _ _ => trivial) tw280 (by decide +kernel)) ?_
  refine ak (ok_if_eq (off := 11) (by decide) (by decide +kernel)) ?_
  refine ak (ok_aload_n (k := 0) rfl (by decide +kernel)) ?_
  refine ak (ok_get (k := 3) ck2 kd10 (by decide) (fun _ _ _ => rfl) (fun _ _ _ _ _ => trivial) tw280 (by decide +kernel)) ?_
  refine ak (ok_iconst (n := 1) (by decide) (by decide +kernel)) ?_
  refine ak (ok_icmp_ne (off := 7) (by decide) (by decide +kernel)) ?_
  refine ak (ok_iconst (n := 1) (by decide) (by decide +kernel)) ?_
  refine ak (ok_goto (off := 4) (by decide) (by decide +kernel)) ?_
  refine ak (ok_iconst (n := 0) (by decide) (by decide +kernel)) ?_
  refine ak (ok_zreturn rfl (by decide +kernel)) ?_
  exact trivial
set_option maxRecDepth 1000000 in
theorem eL_present (w0 : Nat) (i0 : Nat) (M : Mem) : run (cL_present) (fun _ _ _ _ => none) rtI 400 (seek (cL_present) 0) [aR (10, w0, i0)] [] M = mL_present w0 i0 M := id rfl
theorem lL_present {E : EV} {l : Launch} {p : Program} {e : Env} {s : State} {m : MethodId} {args : Array Value} {below : List Frame} {meth : Method} {c : Code} (A : AllOK E l 1 "FreeLances$Lance" prog_4_method_4_code 1 (some .boolean) outI (cL_present)) (C : Cx E p s m args meth c "FreeLances$Lance" prog_4_method_4_code 1 (some .boolean)) : ∀ (w0 : Nat) (i0 : Nat) (M : Mem) (res : (Int32 × Mem)), mL_present w0 i0 M = some res → Wm E p l e 1 s m args below meth c 1 0 [aR (10, w0, i0)] [] M (outI res).1 (outI res).2 := by
  intro w0 i0 M res h
  refine run_at C A rfl hrtI (n := 400) ((eL_present w0 i0 M).trans h) ?_
  intro t als st M hk; cases hk
def dL_present {β : Type} : Den β := fun as M k => match as with
  | [.inr (.inr (.inl (al0, w0, i0)))] => if al0 = 10 then (mL_present w0 i0 M).bind fun q => k (aI q.1) q.2 else none
  | _ => none
theorem wL_present {E : EV} (hsd : E.2.2.2 = 0) (l : Launch) (w0 : Nat) (i0 : Nat) (M : Mem) (q : (Int32 × Mem)) (hq : mL_present w0 i0 M = some q) : Con E l 1 yL_present prog_4_method_4_code 1 (some .boolean) [aR (10, w0, i0)] M (outI q).1 (outI q).2 := by
  refine con_of iL_present (Nat.le_of_ble_eq_true rfl) ?_
  intro p e s m args below meth c C
  exact lL_present (oL_present hsd l) C w0 i0 M _ hq
theorem kL_present {E : EV} (hsd : E.2.2.2 = 0) (l : Launch) {β : Type} : DenOK E l 1 yL_present prog_4_method_4_code 1 (some .boolean) true (dL_present (β := β)) := by
  intro as M k res h
  unfold dL_present at h
  split at h
  ·
    split at h
    · rename_i hc
      obtain rfl := hc
      obtain ⟨q, hq, hk⟩ := Option.bind_eq_some_iff.mp h
      exact ⟨aI q.1, q.2, hk, rfl, wL_present hsd l _ _ M q hq⟩
    · cases h
  · cases h
theorem qL_present {β : Type} : RecOK 10 (dL_present (β := β)) := by
  intro as M k res h
  unfold dL_present at h
  split at h
  ·
    split at h
    · rename_i hc
      obtain rfl := hc
      exact ⟨_, _, _, rfl⟩
    · cases h
  · cases h
