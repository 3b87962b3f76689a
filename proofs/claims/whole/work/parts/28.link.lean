/-! ===== FreeLances.judge()I ===== -/
abbrev yF_judge : MethodName := ⟨"FreeLances", "judge", "()I"⟩
theorem iF_judge : MI yF_judge prog_1_method_53_code 2 (some .int) 0 := ⟨tw1198, tw97, ⟨by decide, by decide⟩, by decide +kernel, by decide, by decide⟩
def cF_judge : List (Ent (Int32 × Mem)) := [(false, 0, 1, sLdA 0),
  (false, 1, 3, sGet 0 (fun w i M => aR (1, 0, 0))),
  (false, 4, 3, sGet 1 (fun w i M => aI (M 1 w i 16))),
  (false, 7, 1, sStI 1),
  (false, 8, 1, sLdA 0),
  (false, 9, 3, sGet 0 (fun w i M => aR (1, 0, 0))),
  (false, 12, 1, sC 0),
  (false, 13, 3, sPut 1 16),
  (false, 16, 1, sLdA 0),
  (false, 17, 3, sGet 0 (fun w i M => aR (1, 0, 0))),
  (false, 20, 3, sGet 1 (fun w i M => aI (M 1 w i 2))),
  (false, 23, 1, sLdA 0),
  (false, 24, 3, sGet 0 (fun w i M => aR (1, 0, 0))),
  (false, 27, 3, sGet 1 (fun w i M => aI (M 1 w i 6))),
  (false, 30, 3, sCmpGe 39),
  (false, 33, 1, sLdA 0),
  (false, 34, 1, sC 3),
  (false, 35, 3, sInv 2 true dF_finding),
  (false, 38, 1, sRetI),
  (false, 39, 1, sLdI 1),
  (false, 40, 1, sLdA 0),
  (false, 41, 3, sGet 0 (fun w i M => aR (1, 0, 0))),
  (false, 44, 3, sGet 1 (fun w i M => aI (M 1 w i 6))),
  (false, 47, 1, sLdA 0),
  (false, 48, 3, sGet 0 (fun w i M => aR (1, 0, 0))),
  (false, 51, 3, sGet 1 (fun w i M => aI (M 1 w i 2))),
  (false, 54, 1, sBin (fun x y => x + y)),
  (false, 55, 3, sCmpEq 60),
  (false, 58, 1, sC 1),
  (false, 59, 1, sRetI),
  (false, 60, 1, sLdA 0),
  (false, 61, 3, sGet 0 (fun w i M => aR (1, 0, 0))),
  (false, 64, 3, sInv 1 true dW_townRowAboveZero),
  (false, 67, 3, sIfEq 72),
  (false, 70, 1, sC 2),
  (false, 71, 1, sRetI),
  (false, 72, 1, sLdA 0),
  (false, 73, 3, sGet 0 (fun w i M => aR (1, 0, 0))),
  (false, 76, 3, sInv 1 true dW_rowsAboveCost),
  (false, 79, 3, sIfEq 84),
  (false, 82, 1, sC 3),
  (false, 83, 1, sRetI),
  (false, 84, 1, sLdA 0),
  (false, 85, 3, sGet 0 (fun w i M => aR (1, 0, 0))),
  (false, 88, 3, sInv 1 true dW_rowsTogether),
  (false, 91, 1, sLdA 0),
  (false, 92, 3, sGet 0 (fun w i M => aR (23, 0, 0))),
  (false, 95, 1, sLdA 0),
  (false, 96, 3, sGet 0 (fun w i M => aR (1, 0, 0))),
  (false, 99, 3, sInv 2 true dP_winterCost),
  (false, 102, 1, sI2L),
  (false, 103, 1, sLcmp),
  (false, 104, 3, sIfNe 111),
  (false, 107, 1, sC 0),
  (false, 108, 3, sGoto 112),
  (false, 111, 1, sC 4),
  (false, 112, 1, sRetI)]
theorem oF_judge {E : EV} (hsd : E.2.2.2 = 0) (l : Launch) : AllOK E l 5 "FreeLances" prog_1_method_53_code 2 (some .int) outI (cF_judge) := by
  refine ak (ok_aload_n (k := 0) rfl (by decide +kernel)) ?_
  refine ak (ok_get (k := 0) ck10 kd0 (by decide) (fun _ _ _ => rfl) (vf_0_0 hsd) tw522 (by decide +kernel)) ?_
  refine ak (ok_get (k := 16) ck9 kd1 (by decide) (fun _ _ _ => rfl) (fun _ _ _ _ _ => trivial) tw421 (by decide +kernel)) ?_
  refine ak (ok_istore_n (k := 1) rfl (by decide) (by decide +kernel)) ?_
  refine ak (ok_aload_n (k := 0) rfl (by decide +kernel)) ?_
  refine ak (ok_get (k := 0) ck10 kd0 (by decide) (fun _ _ _ => rfl) (vf_0_0 hsd) tw522 (by decide +kernel)) ?_
  refine ak (ok_iconst (n := 0) (by decide) (by decide +kernel)) ?_
  refine ak (ok_put (k := 16) ck9 kd1 (by decide) (fun _ _ _ => rfl) rfl rfl (by decide) tw421 (by decide +kernel)) ?_
  refine ak (ok_aload_n (k := 0) rfl (by decide +kernel)) ?_
  refine ak (ok_get (k := 0) ck10 kd0 (by decide) (fun _ _ _ => rfl) (vf_0_0 hsd) tw522 (by decide +kernel)) ?_
  refine ak (ok_get (k := 2) ck9 kd1 (by decide) (fun _ _ _ => rfl) (fun _ _ _ _ _ => trivial) tw391 (by decide +kernel)) ?_
  refine ak (ok_aload_n (k := 0) rfl (by decide +kernel)) ?_
  refine ak (ok_get (k := 0) ck10 kd0 (by decide) (fun _ _ _ => rfl) (vf_0_0 hsd) tw522 (by decide +kernel)) ?_
  refine ak (ok_get (k := 6) ck9 kd1 (by decide) (fun _ _ _ => rfl) (fun _ _ _ _ _ => trivial) tw401 (by decide +kernel)) ?_
  refine ak (ok_icmp_ge (off := 9) (by decide) (by decide +kernel)) ?_
  refine ak (ok_aload_n (k := 0) rfl (by decide +kernel)) ?_
  refine ak (ok_iconst (n := 3) (by decide) (by decide +kernel)) ?_
  refine ak (ok_invV (r := 0) (kF_finding hsd l) qF_finding ck10 kd0 iF_finding tw557 tw0 (by decide) tw555 (by decide +kernel)) ?_
  refine ak (ok_ireturn rfl (by decide +kernel)) ?_
  refine ak (ok_iload_n (k := 1) rfl (by decide +kernel)) ?_
  refine ak (ok_aload_n (k := 0) rfl (by decide +kernel)) ?_
  refine ak (ok_get (k := 0) ck10 kd0 (by decide) (fun _ _ _ => rfl) (vf_0_0 hsd) tw522 (by decide +kernel)) ?_
  refine ak (ok_get (k := 6) ck9 kd1 (by decide) (fun _ _ _ => rfl) (fun _ _ _ _ _ => trivial) tw401 (by decide +kernel)) ?_
  refine ak (ok_aload_n (k := 0) rfl (by decide +kernel)) ?_
  refine ak (ok_get (k := 0) ck10 kd0 (by decide) (fun _ _ _ => rfl) (vf_0_0 hsd) tw522 (by decide +kernel)) ?_
  refine ak (ok_get (k := 2) ck9 kd1 (by decide) (fun _ _ _ => rfl) (fun _ _ _ _ _ => trivial) tw391 (by decide +kernel)) ?_
  refine ak (ok_iadd (by decide +kernel)) ?_
  refine ak (ok_icmp_eq (off := 5) (by decide) (by decide +kernel)) ?_
  refine ak (ok_iconst (n := 1) (by decide) (by decide +kernel)) ?_
  refine ak (ok_ireturn rfl (by decide +kernel)) ?_
  refine ak (ok_aload_n (k := 0) rfl (by decide +kernel)) ?_
  refine ak (ok_get (k := 0) ck10 kd0 (by decide) (fun _ _ _ => rfl) (vf_0_0 hsd) tw522 (by decide +kernel)) ?_
  refine ak (ok_invV (r := 1) (kW_townRowAboveZero hsd l) qW_townRowAboveZero ck9 kd1 iW_townRowAboveZero tw1200 tw1201 (by decide) tw1199 (by decide +kernel)) ?_
  refine ak (ok_if_eq (off := 5) (by decide) (by decide +kernel)) ?_
  refine ak (ok_iconst (n := 2) (by decide) (by decide +kernel)) ?_
  refine ak (ok_ireturn rfl (by decide +kernel)) ?_
  refine ak (ok_aload_n (k := 0) rfl (by decide +kernel)) ?_
  refine ak (ok_get (k := 0) ck10 kd0 (by decide) (fun _ _ _ => rfl) (vf_0_0 hsd) tw522 (by decide +kernel)) ?_
  refine ak (ok_invV (r := 1) (kW_rowsAboveCost hsd l) qW_rowsAboveCost ck9 kd1 iW_rowsAboveCost tw1204 tw1205 (by decide) tw1203 (by decide +kernel)) ?_
  refine ak (ok_if_eq (off := 5) (by decide) (by decide +kernel)) ?_
  refine ak (ok_iconst (n := 3) (by decide) (by decide +kernel)) ?_
  refine ak (ok_ireturn rfl (by decide +kernel)) ?_
  refine ak (ok_aload_n (k := 0) rfl (by decide +kernel)) ?_
  refine ak (ok_get (k := 0) ck10 kd0 (by decide) (fun _ _ _ => rfl) (vf_0_0 hsd) tw522 (by decide +kernel)) ?_
  refine ak (ok_invV (r := 1) (kW_rowsTogether hsd l) qW_rowsTogether ck9 kd1 iW_rowsTogether tw1208 tw1209 (by decide) tw1207 (by decide +kernel)) ?_
  refine ak (ok_aload_n (k := 0) rfl (by decide +kernel)) ?_
  refine ak (ok_get (k := 5) ck10 kd0 (by decide) (fun _ _ _ => rfl) (vf_0_5 hsd) tw527 (by decide +kernel)) ?_
  refine ak (ok_aload_n (k := 0) rfl (by decide +kernel)) ?_
  refine ak (ok_get (k := 0) ck10 kd0 (by decide) (fun _ _ _ => rfl) (vf_0_0 hsd) tw522 (by decide +kernel)) ?_
  refine ak (ok_invV (r := 23) (kP_winterCost hsd l) qP_winterCost ck3 kd23 iP_winterCost tw1014 tw1015 (by decide) tw1013 (by decide +kernel)) ?_
  refine ak (ok_i2l (by decide +kernel)) ?_
  refine ak (ok_lcmp (by decide +kernel)) ?_
  refine ak (ok_if_ne (off := 7) (by decide) (by decide +kernel)) ?_
  refine ak (ok_iconst (n := 0) (by decide) (by decide +kernel)) ?_
  refine ak (ok_goto (off := 4) (by decide) (by decide +kernel)) ?_
  refine ak (ok_iconst (n := 4) (by decide) (by decide +kernel)) ?_
  refine ak (ok_ireturn rfl (by decide +kernel)) ?_
  exact trivial
set_option maxRecDepth 1000000 in
theorem eF_judge (M : Mem) : run (cF_judge) (fun _ _ _ _ => none) rtI 400 (seek (cF_judge) 0) [aR (0, 0, 0), aU] [] M = mF_judge M := id rfl
theorem lF_judge {E : EV} {l : Launch} {p : Program} {e : Env} {s : State} {m : MethodId} {args : Array Value} {below : List Frame} {meth : Method} {c : Code} (A : AllOK E l 5 "FreeLances" prog_1_method_53_code 2 (some .int) outI (cF_judge)) (C : Cx E p s m args meth c "FreeLances" prog_1_method_53_code 2 (some .int)) : ∀ (M : Mem) (res : (Int32 × Mem)), mF_judge M = some res → Wm E p l e 5 s m args below meth c 2 0 [aR (0, 0, 0), aU] [] M (outI res).1 (outI res).2 := by
  intro M res h
  refine run_at C A rfl hrtI (n := 400) ((eF_judge M).trans h) ?_
  intro t als st M hk; cases hk
def dF_judge {β : Type} : Den β := fun as M k => match as with
  | [.inr (.inr (.inl (al0, bl0, cl0)))] => if al0 = 0 ∧ bl0 = 0 ∧ cl0 = 0 then (mF_judge M).bind fun q => k (aI q.1) q.2 else none
  | _ => none
theorem wF_judge {E : EV} (hsd : E.2.2.2 = 0) (l : Launch) (M : Mem) (q : (Int32 × Mem)) (hq : mF_judge M = some q) : Con E l 5 yF_judge prog_1_method_53_code 2 (some .int) [aR (0, 0, 0)] M (outI q).1 (outI q).2 := by
  refine con_of iF_judge (Nat.le_of_ble_eq_true rfl) ?_
  intro p e s m args below meth c C
  exact lF_judge (oF_judge hsd l) C M _ hq
theorem kF_judge {E : EV} (hsd : E.2.2.2 = 0) (l : Launch) {β : Type} : DenOK E l 5 yF_judge prog_1_method_53_code 2 (some .int) true (dF_judge (β := β)) := by
  intro as M k res h
  unfold dF_judge at h
  split at h
  ·
    split at h
    · rename_i hc
      obtain ⟨rfl, rfl, rfl⟩ := hc
      obtain ⟨q, hq, hk⟩ := Option.bind_eq_some_iff.mp h
      exact ⟨aI q.1, q.2, hk, rfl, wF_judge hsd l M q hq⟩
    · cases h
  · cases h
theorem qF_judge {β : Type} : RecOK 0 (dF_judge (β := β)) := by
  intro as M k res h
  unfold dF_judge at h
  split at h
  ·
    split at h
    · rename_i hc
      obtain ⟨rfl, rfl, rfl⟩ := hc
      exact ⟨_, _, _, rfl⟩
    · cases h
  · cases h
/-! ===== FreeLances$World.allCoin()I ===== -/
abbrev yW_allCoin : MethodName := ⟨"FreeLances$World", "allCoin", "()I"⟩
theorem iW_allCoin : MI yW_allCoin prog_11_method_33_code 3 (some .int) 0 := ⟨tw1218, tw98, ⟨by decide, by decide⟩, by decide +kernel, by decide, by decide⟩
def cW_allCoin : List (Ent (Int32 × Mem)) := [(false, 0, 1, sC 0),
  (false, 1, 1, sStI 1),
  (false, 2, 1, sC 0),
  (false, 3, 1, sStI 2),
  (true, 4, 1, sLdI 2),
  (false, 5, 1, sLdA 0),
  (false, 6, 3, sGet 1 (fun w i M => aI (M 1 w i 2))),
  (false, 9, 3, sCmpGe 30),
  (false, 12, 1, sLdI 1),
  (false, 13, 1, sLdA 0),
  (false, 14, 3, sGet 1 (fun w i M => aR (2, w, 0))),
  (false, 17, 1, sLdI 2),
  (false, 18, 1, sAald 2 8 3),
  (false, 19, 3, sGet 3 (fun w i M => aI (M 3 w i 0))),
  (false, 22, 1, sBin (fun x y => x + y)),
  (false, 23, 1, sStI 1),
  (false, 24, 3, sInc 2 1),
  (false, 27, 3, sGoto 4),
  (false, 30, 1, sC 0),
  (false, 31, 1, sStI 2),
  (true, 32, 1, sLdI 2),
  (false, 33, 1, sLdA 0),
  (false, 34, 3, sGet 1 (fun w i M => aI (M 1 w i 6))),
  (false, 37, 3, sCmpGe 58),
  (false, 40, 1, sLdI 1),
  (false, 41, 1, sLdA 0),
  (false, 42, 3, sGet 1 (fun w i M => aR (5, w, 0))),
  (false, 45, 1, sLdI 2),
  (false, 46, 1, sAald 5 5 6),
  (false, 47, 3, sGet 6 (fun w i M => aI (M 6 w i 0))),
  (false, 50, 1, sBin (fun x y => x + y)),
  (false, 51, 1, sStI 1),
  (false, 52, 3, sInc 2 1),
  (false, 55, 3, sGoto 32),
  (false, 58, 1, sLdI 1),
  (false, 59, 1, sRetI)]
theorem oW_allCoin {E : EV} (hsd : E.2.2.2 = 0) (l : Launch) : AllOK E l 1 "FreeLances$World" prog_11_method_33_code 3 (some .int) outI (cW_allCoin) := by
  refine ak (ok_iconst (n := 0) (by decide) (by decide +kernel)) ?_
  refine ak (ok_istore_n (k := 1) rfl (by decide) (by decide +kernel)) ?_
  refine ak (ok_iconst (n := 0) (by decide) (by decide +kernel)) ?_
  refine ak (ok_istore_n (k := 2) rfl (by decide) (by decide +kernel)) ?_
  refine ak (ok_iload_n (k := 2) rfl (by decide +kernel)) ?_
  refine ak (ok_aload_n (k := 0) rfl (by decide +kernel)) ?_
  refine ak (ok_get (k := 2) ck9 kd1 (by decide) (fun _ _ _ => rfl) (fun _ _ _ _ _ => trivial) tw390 (by decide +kernel)) ?_
  refine ak (ok_icmp_ge (off := 21) (by decide) (by decide +kernel)) ?_
  refine ak (ok_iload_n (k := 1) rfl (by decide +kernel)) ?_
  refine ak (ok_aload_n (k := 0) rfl (by decide +kernel)) ?_
  refine ak (ok_get (k := 1) ck9 kd1 (by decide) (fun _ _ _ => rfl) (vf_1_1 hsd) tw388 (by decide +kernel)) ?_
  refine ak (ok_iload_n (k := 2) rfl (by decide +kernel)) ?_
  refine ak (ok_aald (t0 := 2) (C := RX7) kd2 (by decide) rfl (vr_2 hsd) (by decide +kernel)) ?_
  refine ak (ok_get (k := 0) ck7 kd3 (by decide) (fun _ _ _ => rfl) (fun _ _ _ _ _ => trivial) tw176 (by decide +kernel)) ?_
  refine ak (ok_iadd (by decide +kernel)) ?_
  refine ak (ok_istore_n (k := 1) rfl (by decide) (by decide +kernel)) ?_
  refine ak (ok_iinc (n := 1) (by decide) (by decide) (by decide +kernel)) ?_
  refine ak (ok_goto (off := (-23)) (by decide) (by decide +kernel)) ?_
  refine ak (ok_iconst (n := 0) (by decide) (by decide +kernel)) ?_
  refine ak (ok_istore_n (k := 2) rfl (by decide) (by decide +kernel)) ?_
  refine ak (ok_iload_n (k := 2) rfl (by decide +kernel)) ?_
  refine ak (ok_aload_n (k := 0) rfl (by decide +kernel)) ?_
  refine ak (ok_get (k := 6) ck9 kd1 (by decide) (fun _ _ _ => rfl) (fun _ _ _ _ _ => trivial) tw399 (by decide +kernel)) ?_
  refine ak (ok_icmp_ge (off := 21) (by decide) (by decide +kernel)) ?_
  refine ak (ok_iload_n (k := 1) rfl (by decide +kernel)) ?_
  refine ak (ok_aload_n (k := 0) rfl (by decide +kernel)) ?_
  refine ak (ok_get (k := 5) ck9 kd1 (by decide) (fun _ _ _ => rfl) (vf_1_5 hsd) tw396 (by decide +kernel)) ?_
  refine ak (ok_iload_n (k := 2) rfl (by decide +kernel)) ?_
  refine ak (ok_aald (t0 := 3) (C := RX1) kd5 (by decide) rfl (vr_5 hsd) (by decide +kernel)) ?_
  refine ak (ok_get (k := 0) ck1 kd6 (by decide) (fun _ _ _ => rfl) (fun _ _ _ _ _ => trivial) tw199 (by decide +kernel)) ?_
  refine ak (ok_iadd (by decide +kernel)) ?_
  refine ak (ok_istore_n (k := 1) rfl (by decide) (by decide +kernel)) ?_
  refine ak (ok_iinc (n := 1) (by decide) (by decide) (by decide +kernel)) ?_
  refine ak (ok_goto (off := (-23)) (by decide) (by decide +kernel)) ?_
  refine ak (ok_iload_n (k := 1) rfl (by decide +kernel)) ?_
  refine ak (ok_ireturn rfl (by decide +kernel)) ?_
  exact trivial
def KW_allCoin_32 (j32 : Nat → Int32 → Int32 → Mem → Option (Int32 × Mem)) : Jm (Int32 × Mem) := fun t als st M =>
  if t = 32 then (match als, st with
  | [.inr (.inr (.inl (al0, w0, cl0))), .inl x1, .inl x2], [] => if al0 = 1 ∧ cl0 = 0 then j32 w0 x1 x2 M else none
  | _, _ => none) else
  none
set_option maxRecDepth 1000000 in
theorem eW_allCoin_32 (j32 : Nat → Int32 → Int32 → Mem → Option (Int32 × Mem)) (w0 : Nat) (x1 : Int32) (x2 : Int32) (M : Mem) : run (cW_allCoin) (KW_allCoin_32 j32) rtI 400 (seek (cW_allCoin) 32) [aR (1, w0, 0), aI x1, aI x2] [] M = mW_allCoin_32b j32 w0 x1 x2 M := id rfl
theorem lW_allCoin_32 {E : EV} {l : Launch} {p : Program} {e : Env} {s : State} {m : MethodId} {args : Array Value} {below : List Frame} {meth : Method} {c : Code} (A : AllOK E l 1 "FreeLances$World" prog_11_method_33_code 3 (some .int) outI (cW_allCoin)) (C : Cx E p s m args meth c "FreeLances$World" prog_11_method_33_code 3 (some .int)) : ∀ (n : Nat), ∀ (w0 : Nat) (x1 : Int32) (x2 : Int32) (M : Mem) (res : (Int32 × Mem)), mW_allCoin_32 n w0 x1 x2 M = some res → Wm E p l e 1 s m args below meth c 3 32 [aR (1, w0, 0), aI x1, aI x2] [] M (outI res).1 (outI res).2 := by
  intro n
  induction n with
  | zero => intro _ _ _ M res h; cases h
  | succ n ih =>
    intro w0 x1 x2 M res h
    refine run_at C A rfl hrtI (n := 400) ((eW_allCoin_32 (mW_allCoin_32 n) w0 x1 x2 M).trans h) ?_
    intro t als st M hk
    unfold KW_allCoin_32 at hk
    split at hk
    · rename_i ht
      subst ht
      split at hk
      · split at hk
        · rename_i hc
          obtain ⟨rfl, rfl⟩ := hc
          exact ih _ _ _ _ _ hk
        · cases hk
      · cases hk
    cases hk
def KW_allCoin_4 (j4 : Nat → Int32 → Int32 → Mem → Option (Int32 × Mem)) (j32 : Nat → Int32 → Int32 → Mem → Option (Int32 × Mem)) : Jm (Int32 × Mem) := fun t als st M =>
  if t = 4 then (match als, st with
  | [.inr (.inr (.inl (al0, w0, cl0))), .inl x1, .inl x2], [] => if al0 = 1 ∧ cl0 = 0 then j4 w0 x1 x2 M else none
  | _, _ => none) else
  if t = 32 then (match als, st with
  | [.inr (.inr (.inl (al0, w0, cl0))), .inl x1, .inl x2], [] => if al0 = 1 ∧ cl0 = 0 then j32 w0 x1 x2 M else none
  | _, _ => none) else
  none
set_option maxRecDepth 1000000 in
theorem eW_allCoin_4 (j4 : Nat → Int32 → Int32 → Mem → Option (Int32 × Mem)) (j32 : Nat → Int32 → Int32 → Mem → Option (Int32 × Mem)) (w0 : Nat) (x1 : Int32) (x2 : Int32) (M : Mem) : run (cW_allCoin) (KW_allCoin_4 j4 j32) rtI 400 (seek (cW_allCoin) 4) [aR (1, w0, 0), aI x1, aI x2] [] M = mW_allCoin_4b j4 j32 w0 x1 x2 M := id rfl
theorem lW_allCoin_4 {E : EV} {l : Launch} {p : Program} {e : Env} {s : State} {m : MethodId} {args : Array Value} {below : List Frame} {meth : Method} {c : Code} (A : AllOK E l 1 "FreeLances$World" prog_11_method_33_code 3 (some .int) outI (cW_allCoin)) (C : Cx E p s m args meth c "FreeLances$World" prog_11_method_33_code 3 (some .int)) : ∀ (n : Nat), ∀ (w0 : Nat) (x1 : Int32) (x2 : Int32) (M : Mem) (res : (Int32 × Mem)), mW_allCoin_4 n w0 x1 x2 M = some res → Wm E p l e 1 s m args below meth c 3 4 [aR (1, w0, 0), aI x1, aI x2] [] M (outI res).1 (outI res).2 := by
  intro n
  induction n with
  | zero => intro _ _ _ M res h; cases h
  | succ n ih =>
    intro w0 x1 x2 M res h
    refine run_at C A rfl hrtI (n := 400) ((eW_allCoin_4 (mW_allCoin_4 n) (mW_allCoin_32 fuel) w0 x1 x2 M).trans h) ?_
    intro t als st M hk
    unfold KW_allCoin_4 at hk
    split at hk
    · rename_i ht
      subst ht
      split at hk
      · split at hk
        · rename_i hc
          obtain ⟨rfl, rfl⟩ := hc
          exact ih _ _ _ _ _ hk
        · cases hk
      · cases hk
    split at hk
    · rename_i ht
      subst ht
      split at hk
      · split at hk
        · rename_i hc
          obtain ⟨rfl, rfl⟩ := hc
          exact lW_allCoin_32 A C _ _ _ _ _ _ hk
        · cases hk
      · cases hk
    cases hk
def KW_allCoin (j4 : Nat → Int32 → Int32 → Mem → Option (Int32 × Mem)) : Jm (Int32 × Mem) := fun t als st M =>
  if t = 4 then (match als, st with
  | [.inr (.inr (.inl (al0, w0, cl0))), .inl x1, .inl x2], [] => if al0 = 1 ∧ cl0 = 0 then j4 w0 x1 x2 M else none
  | _, _ => none) else
  none
set_option maxRecDepth 1000000 in
theorem eW_allCoin (j4 : Nat → Int32 → Int32 → Mem → Option (Int32 × Mem)) (w0 : Nat) (M : Mem) : run (cW_allCoin) (KW_allCoin j4) rtI 400 (seek (cW_allCoin) 0) [aR (1, w0, 0), aU, aU] [] M = mW_allCoinb j4 w0 M := id rfl
theorem lW_allCoin {E : EV} {l : Launch} {p : Program} {e : Env} {s : State} {m : MethodId} {args : Array Value} {below : List Frame} {meth : Method} {c : Code} (A : AllOK E l 1 "FreeLances$World" prog_11_method_33_code 3 (some .int) outI (cW_allCoin)) (C : Cx E p s m args meth c "FreeLances$World" prog_11_method_33_code 3 (some .int)) : ∀ (w0 : Nat) (M : Mem) (res : (Int32 × Mem)), mW_allCoin w0 M = some res → Wm E p l e 1 s m args below meth c 3 0 [aR (1, w0, 0), aU, aU] [] M (outI res).1 (outI res).2 := by
  intro w0 M res h
  refine run_at C A rfl hrtI (n := 400) ((eW_allCoin (mW_allCoin_4 fuel) w0 M).trans h) ?_
  intro t als st M hk
  unfold KW_allCoin at hk
  split at hk
  · rename_i ht
    subst ht
    split at hk
    · split at hk
      · rename_i hc
        obtain ⟨rfl, rfl⟩ := hc
        exact lW_allCoin_4 A C _ _ _ _ _ _ hk
      · cases hk
    · cases hk
  cases hk
def dW_allCoin {β : Type} : Den β := fun as M k => match as with
  | [.inr (.inr (.inl (al0, w0, cl0)))] => if al0 = 1 ∧ cl0 = 0 then (mW_allCoin w0 M).bind fun q => k (aI q.1) q.2 else none
  | _ => none
theorem wW_allCoin {E : EV} (hsd : E.2.2.2 = 0) (l : Launch) (w0 : Nat) (M : Mem) (q : (Int32 × Mem)) (hq : mW_allCoin w0 M = some q) : Con E l 1 yW_allCoin prog_11_method_33_code 3 (some .int) [aR (1, w0, 0)] M (outI q).1 (outI q).2 := by
  refine con_of iW_allCoin (Nat.le_of_ble_eq_true rfl) ?_
  intro p e s m args below meth c C
  exact lW_allCoin (oW_allCoin hsd l) C w0 M _ hq
theorem kW_allCoin {E : EV} (hsd : E.2.2.2 = 0) (l : Launch) {β : Type} : DenOK E l 1 yW_allCoin prog_11_method_33_code 3 (some .int) true (dW_allCoin (β := β)) := by
  intro as M k res h
  unfold dW_allCoin at h
  split at h
  ·
    split at h
    · rename_i hc
      obtain ⟨rfl, rfl⟩ := hc
      obtain ⟨q, hq, hk⟩ := Option.bind_eq_some_iff.mp h
      exact ⟨aI q.1, q.2, hk, rfl, wW_allCoin hsd l _ M q hq⟩
    · cases h
  · cases h
theorem qW_allCoin {β : Type} : RecOK 1 (dW_allCoin (β := β)) := by
  intro as M k res h
  unfold dW_allCoin at h
  split at h
  ·
    split at h
    · rename_i hc
      obtain ⟨rfl, rfl⟩ := hc
      exact ⟨_, _, _, rfl⟩
    · cases h
  · cases h
/-! ===== FreeLances$World.allFit()I ===== -/
abbrev yW_allFit : MethodName := ⟨"FreeLances$World", "allFit", "()I"⟩
theorem iW_allFit : MI yW_allFit prog_11_method_34_code 3 (some .int) 0 := ⟨tw1222, tw98, ⟨by decide, by decide⟩, by decide +kernel, by decide, by decide⟩
def cW_allFit : List (Ent (Int32 × Mem)) := [(false, 0, 1, sC 0),
  (false, 1, 1, sStI 1),
  (false, 2, 1, sC 0),
  (false, 3, 1, sStI 2),
  (true, 4, 1, sLdI 2),
  (false, 5, 1, sLdA 0),
  (false, 6, 3, sGet 1 (fun w i M => aI (M 1 w i 6))),
  (false, 9, 3, sCmpGe 30),
  (false, 12, 1, sLdI 1),
  (false, 13, 1, sLdA 0),
  (false, 14, 3, sGet 1 (fun w i M => aR (5, w, 0))),
  (false, 17, 1, sLdI 2),
  (false, 18, 1, sAald 5 5 6),
  (false, 19, 3, sGet 6 (fun w i M => aI (M 6 w i 6))),
  (false, 22, 1, sBin (fun x y => x + y)),
  (false, 23, 1, sStI 1),
  (false, 24, 3, sInc 2 1),
  (false, 27, 3, sGoto 4),
  (false, 30, 1, sLdI 1),
  (false, 31, 1, sRetI)]
theorem oW_allFit {E : EV} (hsd : E.2.2.2 = 0) (l : Launch) : AllOK E l 1 "FreeLances$World" prog_11_method_34_code 3 (some .int) outI (cW_allFit) := by
  refine ak (ok_iconst (n := 0) (by decide) (by decide +kernel)) ?_
  refine ak (ok_istore_n (k := 1) rfl (by decide) (by decide +kernel)) ?_
  refine ak (ok_iconst (n := 0) (by decide) (by decide +kernel)) ?_
  refine ak (ok_istore_n (k := 2) rfl (by decide) (by decide +kernel)) ?_
  refine ak (ok_iload_n (k := 2) rfl (by decide +kernel)) ?_
  refine ak (ok_aload_n (k := 0) rfl (by decide +kernel)) ?_
  refine ak (ok_get (k := 6) ck9 kd1 (by decide) (fun _ _ _ => rfl) (fun _ _ _ _ _ => trivial) tw399 (by decide +kernel)) ?_
  refine ak (ok_icmp_ge (off := 21) (by decide) (by decide +kernel)) ?_
  refine ak (ok_iload_n (k := 1) rfl (by decide +kernel)) ?_
  refine ak (ok_aload_n (k := 0) rfl (by decide +kernel)) ?_
  refine ak (ok_get (k := 5) ck9 kd1 (by decide) (fun _ _ _ => rfl) (vf_1_5 hsd) tw396 (by decide +kernel)) ?_
  refine ak (ok_iload_n (k := 2) rfl (by decide +kernel)) ?_
  refine ak (ok_aald (t0 := 3) (C := RX1) kd5 (by decide) rfl (vr_5 hsd) (by decide +kernel)) ?_
  refine ak (ok_get (k := 6) ck1 kd6 (by decide) (fun _ _ _ => rfl) (fun _ _ _ _ _ => trivial) tw215 (by decide +kernel)) ?_
  refine ak (ok_iadd (by decide +kernel)) ?_
  refine ak (ok_istore_n (k := 1) rfl (by decide) (by decide +kernel)) ?_
  refine ak (ok_iinc (n := 1) (by decide) (by decide) (by decide +kernel)) ?_
  refine ak (ok_goto (off := (-23)) (by decide) (by decide +kernel)) ?_
  refine ak (ok_iload_n (k := 1) rfl (by decide +kernel)) ?_
  refine ak (ok_ireturn rfl (by decide +kernel)) ?_
  exact trivial
def KW_allFit_4 (j4 : Nat → Int32 → Int32 → Mem → Option (Int32 × Mem)) : Jm (Int32 × Mem) := fun t als st M =>
  if t = 4 then (match als, st with
  | [.inr (.inr (.inl (al0, w0, cl0))), .inl x1, .inl x2], [] => if al0 = 1 ∧ cl0 = 0 then j4 w0 x1 x2 M else none
  | _, _ => none) else
  none
set_option maxRecDepth 1000000 in
theorem eW_allFit_4 (j4 : Nat → Int32 → Int32 → Mem → Option (Int32 × Mem)) (w0 : Nat) (x1 : Int32) (x2 : Int32) (M : Mem) : run (cW_allFit) (KW_allFit_4 j4) rtI 400 (seek (cW_allFit) 4) [aR (1, w0, 0), aI x1, aI x2] [] M = mW_allFit_4b j4 w0 x1 x2 M := id rfl
theorem lW_allFit_4 {E : EV} {l : Launch} {p : Program} {e : Env} {s : State} {m : MethodId} {args : Array Value} {below : List Frame} {meth : Method} {c : Code} (A : AllOK E l 1 "FreeLances$World" prog_11_method_34_code 3 (some .int) outI (cW_allFit)) (C : Cx E p s m args meth c "FreeLances$World" prog_11_method_34_code 3 (some .int)) : ∀ (n : Nat), ∀ (w0 : Nat) (x1 : Int32) (x2 : Int32) (M : Mem) (res : (Int32 × Mem)), mW_allFit_4 n w0 x1 x2 M = some res → Wm E p l e 1 s m args below meth c 3 4 [aR (1, w0, 0), aI x1, aI x2] [] M (outI res).1 (outI res).2 := by
  intro n
  induction n with
  | zero => intro _ _ _ M res h; cases h
  | succ n ih =>
    intro w0 x1 x2 M res h
    refine run_at C A rfl hrtI (n := 400) ((eW_allFit_4 (mW_allFit_4 n) w0 x1 x2 M).trans h) ?_
    intro t als st M hk
    unfold KW_allFit_4 at hk
    split at hk
    · rename_i ht
      subst ht
      split at hk
      · split at hk
        · rename_i hc
          obtain ⟨rfl, rfl⟩ := hc
          exact ih _ _ _ _ _ hk
        · cases hk
      · cases hk
    cases hk
def KW_allFit (j4 : Nat → Int32 → Int32 → Mem → Option (Int32 × Mem)) : Jm (Int32 × Mem) := fun t als st M =>
  if t = 4 then (match als, st with
  | [.inr (.inr (.inl (al0, w0, cl0))), .inl x1, .inl x2], [] => if al0 = 1 ∧ cl0 = 0 then j4 w0 x1 x2 M else none
  | _, _ => none) else
  none
set_option maxRecDepth 1000000 in
theorem eW_allFit (j4 : Nat → Int32 → Int32 → Mem → Option (Int32 × Mem)) (w0 : Nat) (M : Mem) : run (cW_allFit) (KW_allFit j4) rtI 400 (seek (cW_allFit) 0) [aR (1, w0, 0), aU, aU] [] M = mW_allFitb j4 w0 M := id rfl
theorem lW_allFit {E : EV} {l : Launch} {p : Program} {e : Env} {s : State} {m : MethodId} {args : Array Value} {below : List Frame} {meth : Method} {c : Code} (A : AllOK E l 1 "FreeLances$World" prog_11_method_34_code 3 (some .int) outI (cW_allFit)) (C : Cx E p s m args meth c "FreeLances$World" prog_11_method_34_code 3 (some .int)) : ∀ (w0 : Nat) (M : Mem) (res : (Int32 × Mem)), mW_allFit w0 M = some res → Wm E p l e 1 s m args below meth c 3 0 [aR (1, w0, 0), aU, aU] [] M (outI res).1 (outI res).2 := by
  intro w0 M res h
  refine run_at C A rfl hrtI (n := 400) ((eW_allFit (mW_allFit_4 fuel) w0 M).trans h) ?_
  intro t als st M hk
  unfold KW_allFit at hk
  split at hk
  · rename_i ht
    subst ht
    split at hk
    · split at hk
      · rename_i hc
        obtain ⟨rfl, rfl⟩ := hc
        exact lW_allFit_4 A C _ _ _ _ _ _ hk
      · cases hk
    · cases hk
  cases hk
def dW_allFit {β : Type} : Den β := fun as M k => match as with
  | [.inr (.inr (.inl (al0, w0, cl0)))] => if al0 = 1 ∧ cl0 = 0 then (mW_allFit w0 M).bind fun q => k (aI q.1) q.2 else none
  | _ => none
theorem wW_allFit {E : EV} (hsd : E.2.2.2 = 0) (l : Launch) (w0 : Nat) (M : Mem) (q : (Int32 × Mem)) (hq : mW_allFit w0 M = some q) : Con E l 1 yW_allFit prog_11_method_34_code 3 (some .int) [aR (1, w0, 0)] M (outI q).1 (outI q).2 := by
  refine con_of iW_allFit (Nat.le_of_ble_eq_true rfl) ?_
  intro p e s m args below meth c C
  exact lW_allFit (oW_allFit hsd l) C w0 M _ hq
theorem kW_allFit {E : EV} (hsd : E.2.2.2 = 0) (l : Launch) {β : Type} : DenOK E l 1 yW_allFit prog_11_method_34_code 3 (some .int) true (dW_allFit (β := β)) := by
  intro as M k res h
  unfold dW_allFit at h
  split at h
  ·
    split at h
    · rename_i hc
      obtain ⟨rfl, rfl⟩ := hc
      obtain ⟨q, hq, hk⟩ := Option.bind_eq_some_iff.mp h
      exact ⟨aI q.1, q.2, hk, rfl, wW_allFit hsd l _ M q hq⟩
    · cases h
  · cases h
theorem qW_allFit {β : Type} : RecOK 1 (dW_allFit (β := β)) := by
  intro as M k res h
  unfold dW_allFit at h
  split at h
  ·
    split at h
    · rename_i hc
      obtain ⟨rfl, rfl⟩ := hc
      exact ⟨_, _, _, rfl⟩
    · cases h
  · cases h
/-! ===== FreeLances$World.clashes()I ===== -/
abbrev yW_clashes : MethodName := ⟨"FreeLances$World", "clashes", "()I"⟩
theorem iW_clashes : MI yW_clashes prog_11_method_20_code 4 (some .int) 0 := ⟨tw1226, tw98, ⟨by decide, by decide⟩, by decide +kernel, by decide, by decide⟩
def cW_clashes : List (Ent (Int32 × Mem)) := [(false, 0, 1, sC 0),
  (false, 1, 1, sStI 1),
  (false, 2, 1, sC 0),
  (false, 3, 1, sStI 2),
  (true, 4, 1, sLdI 2),
  (false, 5, 1, sLdA 0),
  (false, 6, 3, sGet 1 (fun w i M => aI (M 1 w i 12))),
  (false, 9, 3, sCmpGe 63),
  (false, 12, 1, sLdI 2),
  (false, 13, 1, sC 1),
  (false, 14, 1, sBin (fun x y => x + y)),
  (false, 15, 1, sStI 3),
  (true, 16, 1, sLdI 3),
  (false, 17, 1, sLdA 0),
  (false, 18, 3, sGet 1 (fun w i M => aI (M 1 w i 12))),
  (false, 21, 3, sCmpGe 57),
  (false, 24, 1, sLdI 1),
  (false, 25, 1, sLdA 0),
  (false, 26, 1, sLdA 0),
  (false, 27, 3, sGet 1 (fun w i M => aR (14, w, 0))),
  (false, 30, 1, sLdI 2),
  (false, 31, 1, sAald 14 24 15),
  (false, 32, 1, sLdA 0),
  (false, 33, 3, sGet 1 (fun w i M => aR (14, w, 0))),
  (false, 36, 1, sLdI 3),
  (false, 37, 1, sAald 14 24 15),
  (false, 38, 3, sInv 3 true dW_clashDay),
  (false, 41, 3, sIfLt 48),
  (false, 44, 1, sC 1),
  (false, 45, 3, sGoto 49),
  (false, 48, 1, sC 0),
  (false, 49, 1, sBin (fun x y => x + y)),
  (false, 50, 1, sStI 1),
  (false, 51, 3, sInc 3 1),
  (false, 54, 3, sGoto 16),
  (false, 57, 3, sInc 2 1),
  (false, 60, 3, sGoto 4),
  (false, 63, 1, sLdI 1),
  (false, 64, 1, sRetI)]
theorem oW_clashes {E : EV} (hsd : E.2.2.2 = 0) (l : Launch) : AllOK E l 6 "FreeLances$World" prog_11_method_20_code 4 (some .int) outI (cW_clashes) := by
  refine ak (ok_iconst (n := 0) (by decide) (by decide +kernel)) ?_
  refine ak (ok_istore_n (k := 1) rfl (by decide) (by decide +kernel)) ?_
  refine ak (ok_iconst (n := 0) (by decide) (by decide +kernel)) ?_
  refine ak (ok_istore_n (k := 2) rfl (by decide) (by decide +kernel)) ?_
  refine ak (ok_iload_n (k := 2) rfl (by decide +kernel)) ?_
  refine ak (ok_aload_n (k := 0) rfl (by decide +kernel)) ?_
  refine ak (ok_get (k := 12) ck9 kd1 (by decide) (fun _ _ _ => rfl) (fun _ _ _ _ _ => trivial) tw412 (by decide +kernel)) ?_
  refine ak (ok_icmp_ge (off := 54) (by decide) (by decide +kernel)) ?_
  refine ak (ok_iload_n (k := 2) rfl (by decide +kernel)) ?_
  refine ak (ok_iconst (n := 1) (by decide) (by decide +kernel)) ?_
  refine ak (ok_iadd (by decide +kernel)) ?_
  refine ak (ok_istore_n (k := 3) rfl (by decide) (by decide +kernel)) ?_
  refine ak (ok_iload_n (k := 3) rfl (by decide +kernel)) ?_
  refine ak (ok_aload_n (k := 0) rfl (by decide +kernel)) ?_
  refine ak (ok_get (k := 12) ck9 kd1 (by decide) (fun _ _ _ => rfl) (fun _ _ _ _ _ => trivial) tw412 (by decide +kernel)) ?_
  refine ak (ok_icmp_ge (off := 36) (by decide) (by decide +kernel)) ?_
  refine ak (ok_iload_n (k := 1) rfl (by decide +kernel)) ?_
  refine ak (ok_aload_n (k := 0) rfl (by decide +kernel)) ?_
  refine ak (ok_aload_n (k := 0) rfl (by decide +kernel)) ?_
  refine ak (ok_get (k := 11) ck9 kd1 (by decide) (fun _ _ _ => rfl) (vf_1_11 hsd) tw410 (by decide +kernel)) ?_
  refine ak (ok_iload_n (k := 2) rfl (by decide +kernel)) ?_
  refine ak (ok_aald (t0 := 6) (C := RX0) kd14 (by decide) rfl (vr_14 hsd) (by decide +kernel)) ?_
  refine ak (ok_aload_n (k := 0) rfl (by decide +kernel)) ?_
  refine ak (ok_get (k := 11) ck9 kd1 (by decide) (fun _ _ _ => rfl) (vf_1_11 hsd) tw410 (by decide +kernel)) ?_
  refine ak (ok_iload_n (k := 3) rfl (by decide +kernel)) ?_
  refine ak (ok_aald (t0 := 6) (C := RX0) kd14 (by decide) rfl (vr_14 hsd) (by decide +kernel)) ?_
  refine ak (ok_invV (r := 1) (kW_clashDay hsd l) qW_clashDay ck9 kd1 iW_clashDay tw884 tw885 (by decide) tw1227 (by decide +kernel)) ?_
  refine ak (ok_if_lt (off := 7) (by decide) (by decide +kernel)) ?_
  refine ak (ok_iconst (n := 1) (by decide) (by decide +kernel)) ?_
  refine ak (ok_goto (off := 4) (by decide) (by decide +kernel)) ?_
  refine ak (ok_iconst (n := 0) (by decide) (by decide +kernel)) ?_
  refine ak (ok_iadd (by decide +kernel)) ?_
  refine ak (ok_istore_n (k := 1) rfl (by decide) (by decide +kernel)) ?_
  refine ak (ok_iinc (n := 1) (by decide) (by decide) (by decide +kernel)) ?_
  refine ak (ok_goto (off := (-38)) (by decide) (by decide +kernel)) ?_
  refine ak (ok_iinc (n := 1) (by decide) (by decide) (by decide +kernel)) ?_
  refine ak (ok_goto (off := (-56)) (by decide) (by decide +kernel)) ?_
  refine ak (ok_iload_n (k := 1) rfl (by decide +kernel)) ?_
  refine ak (ok_ireturn rfl (by decide +kernel)) ?_
  exact trivial
def KW_clashes_16 (j4 : Nat → Int32 → Int32 → Mem → Option (Int32 × Mem)) (j16 : Nat → Int32 → Int32 → Int32 → Mem → Option (Int32 × Mem)) : Jm (Int32 × Mem) := fun t als st M =>
  if t = 4 then (match als, st with
  | [.inr (.inr (.inl (al0, w0, cl0))), .inl x1, .inl x2, _], [] => if al0 = 1 ∧ cl0 = 0 then j4 w0 x1 x2 M else none
  | _, _ => none) else
  if t = 16 then (match als, st with
  | [.inr (.inr (.inl (al0, w0, cl0))), .inl x1, .inl x2, .inl x3], [] => if al0 = 1 ∧ cl0 = 0 then j16 w0 x1 x2 x3 M else none
  | _, _ => none) else
  none
set_option maxRecDepth 1000000 in
theorem eW_clashes_16 (j4 : Nat → Int32 → Int32 → Mem → Option (Int32 × Mem)) (j16 : Nat → Int32 → Int32 → Int32 → Mem → Option (Int32 × Mem)) (w0 : Nat) (x1 : Int32) (x2 : Int32) (x3 : Int32) (M : Mem) : run (cW_clashes) (KW_clashes_16 j4 j16) rtI 400 (seek (cW_clashes) 16) [aR (1, w0, 0), aI x1, aI x2, aI x3] [] M = mW_clashes_16b j4 j16 w0 x1 x2 x3 M := id rfl
theorem lW_clashes_16 {E : EV} {l : Launch} {p : Program} {e : Env} {s : State} {m : MethodId} {args : Array Value} {below : List Frame} {meth : Method} {c : Code} (A : AllOK E l 6 "FreeLances$World" prog_11_method_20_code 4 (some .int) outI (cW_clashes)) (C : Cx E p s m args meth c "FreeLances$World" prog_11_method_20_code 4 (some .int)) {r4 : Nat → Int32 → Int32 → Mem → Option (Int32 × Mem)} (H4 : ∀ (w0 : Nat) (x1 : Int32) (x2 : Int32) (M : Mem) (res : (Int32 × Mem)), r4 w0 x1 x2 M = some res → ∀ (u3 : AV), Wm E p l e 6 s m args below meth c 4 4 [aR (1, w0, 0), aI x1, aI x2, u3] [] M (outI res).1 (outI res).2) : ∀ (n : Nat), ∀ (w0 : Nat) (x1 : Int32) (x2 : Int32) (x3 : Int32) (M : Mem) (res : (Int32 × Mem)), mW_clashes_16 r4 n w0 x1 x2 x3 M = some res → Wm E p l e 6 s m args below meth c 4 16 [aR (1, w0, 0), aI x1, aI x2, aI x3] [] M (outI res).1 (outI res).2 := by
  intro n
  induction n with
  | zero => intro _ _ _ _ M res h; cases h
  | succ n ih =>
    intro w0 x1 x2 x3 M res h
    refine run_at C A rfl hrtI (n := 400) ((eW_clashes_16 r4 (mW_clashes_16 r4 n) w0 x1 x2 x3 M).trans h) ?_
    intro t als st M hk
    unfold KW_clashes_16 at hk
    split at hk
    · rename_i ht
      subst ht
      split at hk
      · split at hk
        · rename_i hc
          obtain ⟨rfl, rfl⟩ := hc
          exact H4 _ _ _ _ _ hk _
        · cases hk
      · cases hk
    split at hk
    · rename_i ht
      subst ht
      split at hk
      · split at hk
        · rename_i hc
          obtain ⟨rfl, rfl⟩ := hc
          exact ih _ _ _ _ _ _ hk
        · cases hk
      · cases hk
    cases hk
def KW_clashes_4 (j16 : Nat → Int32 → Int32 → Int32 → Mem → Option (Int32 × Mem)) : Jm (Int32 × Mem) := fun t als st M =>
  if t = 16 then (match als, st with
  | [.inr (.inr (.inl (al0, w0, cl0))), .inl x1, .inl x2, .inl x3], [] => if al0 = 1 ∧ cl0 = 0 then j16 w0 x1 x2 x3 M else none
  | _, _ => none) else
  none
set_option maxRecDepth 1000000 in
theorem eW_clashes_4 (j16 : Nat → Int32 → Int32 → Int32 → Mem → Option (Int32 × Mem)) (w0 : Nat) (x1 : Int32) (x2 : Int32) (M : Mem) (u3 : AV) : run (cW_clashes) (KW_clashes_4 j16) rtI 400 (seek (cW_clashes) 4) [aR (1, w0, 0), aI x1, aI x2, u3] [] M = mW_clashes_4b j16 w0 x1 x2 M := id rfl
theorem lW_clashes_4 {E : EV} {l : Launch} {p : Program} {e : Env} {s : State} {m : MethodId} {args : Array Value} {below : List Frame} {meth : Method} {c : Code} (A : AllOK E l 6 "FreeLances$World" prog_11_method_20_code 4 (some .int) outI (cW_clashes)) (C : Cx E p s m args meth c "FreeLances$World" prog_11_method_20_code 4 (some .int)) : ∀ (n : Nat), ∀ (w0 : Nat) (x1 : Int32) (x2 : Int32) (M : Mem) (res : (Int32 × Mem)), mW_clashes_4 n w0 x1 x2 M = some res → ∀ (u3 : AV), Wm E p l e 6 s m args below meth c 4 4 [aR (1, w0, 0), aI x1, aI x2, u3] [] M (outI res).1 (outI res).2 := by
  intro n
  induction n with
  | zero => intro _ _ _ M res h; cases h
  | succ n ih =>
    intro w0 x1 x2 M res h u3
    refine run_at C A rfl hrtI (n := 400) ((eW_clashes_4 (mW_clashes_16 (mW_clashes_4 n) fuel) w0 x1 x2 M u3).trans h) ?_
    intro t als st M hk
    unfold KW_clashes_4 at hk
    split at hk
    · rename_i ht
      subst ht
      split at hk
      · split at hk
        · rename_i hc
          obtain ⟨rfl, rfl⟩ := hc
          exact lW_clashes_16 A C ih _ _ _ _ _ _ _ hk
        · cases hk
      · cases hk
    cases hk
def KW_clashes (j4 : Nat → Int32 → Int32 → Mem → Option (Int32 × Mem)) : Jm (Int32 × Mem) := fun t als st M =>
  if t = 4 then (match als, st with
  | [.inr (.inr (.inl (al0, w0, cl0))), .inl x1, .inl x2, _], [] => if al0 = 1 ∧ cl0 = 0 then j4 w0 x1 x2 M else none
  | _, _ => none) else
  none
set_option maxRecDepth 1000000 in
theorem eW_clashes (j4 : Nat → Int32 → Int32 → Mem → Option (Int32 × Mem)) (w0 : Nat) (M : Mem) : run (cW_clashes) (KW_clashes j4) rtI 400 (seek (cW_clashes) 0) [aR (1, w0, 0), aU, aU, aU] [] M = mW_clashesb j4 w0 M := id rfl
theorem lW_clashes {E : EV} {l : Launch} {p : Program} {e : Env} {s : State} {m : MethodId} {args : Array Value} {below : List Frame} {meth : Method} {c : Code} (A : AllOK E l 6 "FreeLances$World" prog_11_method_20_code 4 (some .int) outI (cW_clashes)) (C : Cx E p s m args meth c "FreeLances$World" prog_11_method_20_code 4 (some .int)) : ∀ (w0 : Nat) (M : Mem) (res : (Int32 × Mem)), mW_clashes w0 M = some res → Wm E p l e 6 s m args below meth c 4 0 [aR (1, w0, 0), aU, aU, aU] [] M (outI res).1 (outI res).2 := by
  intro w0 M res h
  refine run_at C A rfl hrtI (n := 400) ((eW_clashes (mW_clashes_4 fuel) w0 M).trans h) ?_
  intro t als st M hk
  unfold KW_clashes at hk
  split at hk
  · rename_i ht
    subst ht
    split at hk
    · split at hk
      · rename_i hc
        obtain ⟨rfl, rfl⟩ := hc
        exact lW_clashes_4 A C _ _ _ _ _ _ hk _
      · cases hk
    · cases hk
  cases hk
def dW_clashes {β : Type} : Den β := fun as M k => match as with
  | [.inr (.inr (.inl (al0, w0, cl0)))] => if al0 = 1 ∧ cl0 = 0 then (mW_clashes w0 M).bind fun q => k (aI q.1) q.2 else none
  | _ => none
theorem wW_clashes {E : EV} (hsd : E.2.2.2 = 0) (l : Launch) (w0 : Nat) (M : Mem) (q : (Int32 × Mem)) (hq : mW_clashes w0 M = some q) : Con E l 6 yW_clashes prog_11_method_20_code 4 (some .int) [aR (1, w0, 0)] M (outI q).1 (outI q).2 := by
  refine con_of iW_clashes (Nat.le_of_ble_eq_true rfl) ?_
  intro p e s m args below meth c C
  exact lW_clashes (oW_clashes hsd l) C w0 M _ hq
theorem kW_clashes {E : EV} (hsd : E.2.2.2 = 0) (l : Launch) {β : Type} : DenOK E l 6 yW_clashes prog_11_method_20_code 4 (some .int) true (dW_clashes (β := β)) := by
  intro as M k res h
  unfold dW_clashes at h
  split at h
  ·
    split at h
    · rename_i hc
      obtain ⟨rfl, rfl⟩ := hc
      obtain ⟨q, hq, hk⟩ := Option.bind_eq_some_iff.mp h
      exact ⟨aI q.1, q.2, hk, rfl, wW_clashes hsd l _ M q hq⟩
    · cases h
  · cases h
theorem qW_clashes {β : Type} : RecOK 1 (dW_clashes (β := β)) := by
  intro as M k res h
  unfold dW_clashes at h
  split at h
  ·
    split at h
    · rename_i hc
      obtain ⟨rfl, rfl⟩ := hc
      exact ⟨_, _, _, rfl⟩
    · cases h
  · cases h
/-! ===== FreeLances$World.allOwed()I ===== -/
abbrev yW_allOwed : MethodName := ⟨"FreeLances$World", "allOwed", "()I"⟩
theorem iW_allOwed : MI yW_allOwed prog_11_method_35_code 3 (some .int) 0 := ⟨tw1231, tw98, ⟨by decide, by decide⟩, by decide +kernel, by decide, by decide⟩
def cW_allOwed : List (Ent (Int32 × Mem)) := [(false, 0, 1, sC 0),
  (false, 1, 1, sStI 1),
  (false, 2, 1, sC 0),
  (false, 3, 1, sStI 2),
  (true, 4, 1, sLdI 2),
  (false, 5, 1, sLdA 0),
  (false, 6, 3, sGet 1 (fun w i M => aI (M 1 w i 12))),
  (false, 9, 3, sCmpGe 30),
  (false, 12, 1, sLdI 1),
  (false, 13, 1, sLdA 0),
  (false, 14, 3, sGet 1 (fun w i M => aR (14, w, 0))),
  (false, 17, 1, sLdI 2),
  (false, 18, 1, sAald 14 24 15),
  (false, 19, 3, sGet 15 (fun w i M => aI (M 15 w i 8))),
  (false, 22, 1, sBin (fun x y => x + y)),
  (false, 23, 1, sStI 1),
  (false, 24, 3, sInc 2 1),
  (false, 27, 3, sGoto 4),
  (false, 30, 1, sLdI 1),
  (false, 31, 1, sRetI)]
theorem oW_allOwed {E : EV} (hsd : E.2.2.2 = 0) (l : Launch) : AllOK E l 1 "FreeLances$World" prog_11_method_35_code 3 (some .int) outI (cW_allOwed) := by
  refine ak (ok_iconst (n := 0) (by decide) (by decide +kernel)) ?_
  refine ak (ok_istore_n (k := 1) rfl (by decide) (by decide +kernel)) ?_
  refine ak (ok_iconst (n := 0) (by decide) (by decide +kernel)) ?_
  refine ak (ok_istore_n (k := 2) rfl (by decide) (by decide +kernel)) ?_
  refine ak (ok_iload_n (k := 2) rfl (by decide +kernel)) ?_
  refine ak (ok_aload_n (k := 0) rfl (by decide +kernel)) ?_
  refine ak (ok_get (k := 12) ck9 kd1 (by decide) (fun _ _ _ => rfl) (fun _ _ _ _ _ => trivial) tw412 (by decide +kernel)) ?_
  refine ak (ok_icmp_ge (off := 21) (by decide) (by decide +kernel)) ?_
  refine ak (ok_iload_n (k := 1) rfl (by decide +kernel)) ?_
  refine ak (ok_aload_n (k := 0) rfl (by decide +kernel)) ?_
  refine ak (ok_get (k := 11) ck9 kd1 (by decide) (fun _ _ _ => rfl) (vf_1_11 hsd) tw410 (by decide +kernel)) ?_
  refine ak (ok_iload_n (k := 2) rfl (by decide +kernel)) ?_
  refine ak (ok_aald (t0 := 6) (C := RX0) kd14 (by decide) rfl (vr_14 hsd) (by decide +kernel)) ?_
  refine ak (ok_get (k := 8) ck0 kd15 (by decide) (fun _ _ _ => rfl) (fun _ _ _ _ _ => trivial) tw349 (by decide +kernel)) ?_
  refine ak (ok_iadd (by decide +kernel)) ?_
  refine ak (ok_istore_n (k := 1) rfl (by decide) (by decide +kernel)) ?_
  refine ak (ok_iinc (n := 1) (by decide) (by decide) (by decide +kernel)) ?_
  refine ak (ok_goto (off := (-23)) (by decide) (by decide +kernel)) ?_
  refine ak (ok_iload_n (k := 1) rfl (by decide +kernel)) ?_
  refine ak (ok_ireturn rfl (by decide +kernel)) ?_
  exact trivial
def KW_allOwed_4 (j4 : Nat → Int32 → Int32 → Mem → Option (Int32 × Mem)) : Jm (Int32 × Mem) := fun t als st M =>
  if t = 4 then (match als, st with
  | [.inr (.inr (.inl (al0, w0, cl0))), .inl x1, .inl x2], [] => if al0 = 1 ∧ cl0 = 0 then j4 w0 x1 x2 M else none
  | _, _ => none) else
  none
set_option maxRecDepth 1000000 in
theorem eW_allOwed_4 (j4 : Nat → Int32 → Int32 → Mem → Option (Int32 × Mem)) (w0 : Nat) (x1 : Int32) (x2 : Int32) (M : Mem) : run (cW_allOwed) (KW_allOwed_4 j4) rtI 400 (seek (cW_allOwed) 4) [aR (1, w0, 0), aI x1, aI x2] [] M = mW_allOwed_4b j4 w0 x1 x2 M := id rfl
theorem lW_allOwed_4 {E : EV} {l : Launch} {p : Program} {e : Env} {s : State} {m : MethodId} {args : Array Value} {below : List Frame} {meth : Method} {c : Code} (A : AllOK E l 1 "FreeLances$World" prog_11_method_35_code 3 (some .int) outI (cW_allOwed)) (C : Cx E p s m args meth c "FreeLances$World" prog_11_method_35_code 3 (some .int)) : ∀ (n : Nat), ∀ (w0 : Nat) (x1 : Int32) (x2 : Int32) (M : Mem) (res : (Int32 × Mem)), mW_allOwed_4 n w0 x1 x2 M = some res → Wm E p l e 1 s m args below meth c 3 4 [aR (1, w0, 0), aI x1, aI x2] [] M (outI res).1 (outI res).2 := by
  intro n
  induction n with
  | zero => intro _ _ _ M res h; cases h
  | succ n ih =>
    intro w0 x1 x2 M res h
    refine run_at C A rfl hrtI (n := 400) ((eW_allOwed_4 (mW_allOwed_4 n) w0 x1 x2 M).trans h) ?_
    intro t als st M hk
    unfold KW_allOwed_4 at hk
    split at hk
    · rename_i ht
      subst ht
      split at hk
      · split at hk
        · rename_i hc
          obtain ⟨rfl, rfl⟩ := hc
          exact ih _ _ _ _ _ hk
        · cases hk
      · cases hk
    cases hk
def KW_allOwed (j4 : Nat → Int32 → Int32 → Mem → Option (Int32 × Mem)) : Jm (Int32 × Mem) := fun t als st M =>
  if t = 4 then (match als, st with
  | [.inr (.inr (.inl (al0, w0, cl0))), .inl x1, .inl x2], [] => if al0 = 1 ∧ cl0 = 0 then j4 w0 x1 x2 M else none
  | _, _ => none) else
  none
set_option maxRecDepth 1000000 in
theorem eW_allOwed (j4 : Nat → Int32 → Int32 → Mem → Option (Int32 × Mem)) (w0 : Nat) (M : Mem) : run (cW_allOwed) (KW_allOwed j4) rtI 400 (seek (cW_allOwed) 0) [aR (1, w0, 0), aU, aU] [] M = mW_allOwedb j4 w0 M := id rfl
theorem lW_allOwed {E : EV} {l : Launch} {p : Program} {e : Env} {s : State} {m : MethodId} {args : Array Value} {below : List Frame} {meth : Method} {c : Code} (A : AllOK E l 1 "FreeLances$World" prog_11_method_35_code 3 (some .int) outI (cW_allOwed)) (C : Cx E p s m args meth c "FreeLances$World" prog_11_method_35_code 3 (some .int)) : ∀ (w0 : Nat) (M : Mem) (res : (Int32 × Mem)), mW_allOwed w0 M = some res → Wm E p l e 1 s m args below meth c 3 0 [aR (1, w0, 0), aU, aU] [] M (outI res).1 (outI res).2 := by
  intro w0 M res h
  refine run_at C A rfl hrtI (n := 400) ((eW_allOwed (mW_allOwed_4 fuel) w0 M).trans h) ?_
  intro t als st M hk
  unfold KW_allOwed at hk
  split at hk
  · rename_i ht
    subst ht
    split at hk
    · split at hk
      · rename_i hc
        obtain ⟨rfl, rfl⟩ := hc
        exact lW_allOwed_4 A C _ _ _ _ _ _ hk
      · cases hk
    · cases hk
  cases hk
def dW_allOwed {β : Type} : Den β := fun as M k => match as with
  | [.inr (.inr (.inl (al0, w0, cl0)))] => if al0 = 1 ∧ cl0 = 0 then (mW_allOwed w0 M).bind fun q => k (aI q.1) q.2 else none
  | _ => none
theorem wW_allOwed {E : EV} (hsd : E.2.2.2 = 0) (l : Launch) (w0 : Nat) (M : Mem) (q : (Int32 × Mem)) (hq : mW_allOwed w0 M = some q) : Con E l 1 yW_allOwed prog_11_method_35_code 3 (some .int) [aR (1, w0, 0)] M (outI q).1 (outI q).2 := by
  refine con_of iW_allOwed (Nat.le_of_ble_eq_true rfl) ?_
  intro p e s m args below meth c C
  exact lW_allOwed (oW_allOwed hsd l) C w0 M _ hq
theorem kW_allOwed {E : EV} (hsd : E.2.2.2 = 0) (l : Launch) {β : Type} : DenOK E l 1 yW_allOwed prog_11_method_35_code 3 (some .int) true (dW_allOwed (β := β)) := by
  intro as M k res h
  unfold dW_allOwed at h
  split at h
  ·
    split at h
    · rename_i hc
      obtain ⟨rfl, rfl⟩ := hc
      obtain ⟨q, hq, hk⟩ := Option.bind_eq_some_iff.mp h
      exact ⟨aI q.1, q.2, hk, rfl, wW_allOwed hsd l _ M q hq⟩
    · cases h
  · cases h
theorem qW_allOwed {β : Type} : RecOK 1 (dW_allOwed (β := β)) := by
  intro as M k res h
  unfold dW_allOwed at h
  split at h
  ·
    split at h
    · rename_i hc
      obtain ⟨rfl, rfl⟩ := hc
      exact ⟨_, _, _, rfl⟩
    · cases h
  · cases h
/-! ===== FreeLances.count(I)I ===== -/
abbrev yF_count : MethodName := ⟨"FreeLances", "count", "(I)I"⟩
theorem iF_count : MI yF_count prog_1_method_54_code 2 (some .int) 1 := ⟨tw1214, tw97, ⟨by decide, by decide⟩, by decide +kernel, by decide, by decide⟩
def cF_count : List (Ent (Int32 × Mem)) := [(false, 0, 1, sLdI 1),
  (false, 1, 71, sSw 184 [(0, 72), (1, 80), (2, 88), (3, 96), (4, 104), (5, 112), (6, 120), (7, 128), (8, 136), (9, 144), (10, 152), (11, 160), (12, 168), (13, 176)]),
  (false, 72, 1, sLdA 0),
  (false, 73, 3, sGet 0 (fun w i M => aR (1, 0, 0))),
  (false, 76, 3, sGet 1 (fun w i M => aI (M 1 w i 2))),
  (false, 79, 1, sRetI),
  (false, 80, 1, sLdA 0),
  (false, 81, 3, sGet 0 (fun w i M => aR (1, 0, 0))),
  (false, 84, 3, sGet 1 (fun w i M => aI (M 1 w i 3))),
  (false, 87, 1, sRetI),
  (false, 88, 1, sLdA 0),
  (false, 89, 3, sGet 0 (fun w i M => aR (1, 0, 0))),
  (false, 92, 3, sGet 1 (fun w i M => aI (M 1 w i 6))),
  (false, 95, 1, sRetI),
  (false, 96, 1, sLdA 0),
  (false, 97, 3, sGet 0 (fun w i M => aR (1, 0, 0))),
  (false, 100, 3, sGet 1 (fun w i M => aI (M 1 w i 8))),
  (false, 103, 1, sRetI),
  (false, 104, 1, sLdA 0),
  (false, 105, 3, sGet 0 (fun w i M => aR (1, 0, 0))),
  (false, 108, 3, sGet 1 (fun w i M => aI (M 1 w i 10))),
  (false, 111, 1, sRetI),
  (false, 112, 1, sLdA 0),
  (false, 113, 3, sGet 0 (fun w i M => aR (1, 0, 0))),
  (false, 116, 3, sGet 1 (fun w i M => aI (M 1 w i 12))),
  (false, 119, 1, sRetI),
  (false, 120, 1, sLdA 0),
  (false, 121, 3, sGet 0 (fun w i M => aR (1, 0, 0))),
  (false, 124, 3, sGet 1 (fun w i M => aI (M 1 w i 0))),
  (false, 127, 1, sRetI),
  (false, 128, 1, sLdA 0),
  (false, 129, 3, sGet 0 (fun w i M => aR (1, 0, 0))),
  (false, 132, 3, sGet 1 (fun w i M => aI (M 1 w i 14))),
  (false, 135, 1, sRetI),
  (false, 136, 1, sLdA 0),
  (false, 137, 3, sGet 0 (fun w i M => aR (21, 0, 0))),
  (false, 140, 3, sGet 21 (fun w i M => aI (M 21 w i 1))),
  (false, 143, 1, sRetI),
  (false, 144, 1, sLdA 0),
  (false, 145, 3, sGet 0 (fun w i M => aR (1, 0, 0))),
  (false, 148, 3, sGet 1 (fun w i M => aI (M 1 w i 16))),
  (false, 151, 1, sRetI),
  (false, 152, 1, sLdA 0),
  (false, 153, 3, sGet 0 (fun w i M => aR (1, 0, 0))),
  (false, 156, 3, sInv 1 true dW_allCoin),
  (false, 159, 1, sRetI),
  (false, 160, 1, sLdA 0),
  (false, 161, 3, sGet 0 (fun w i M => aR (1, 0, 0))),
  (false, 164, 3, sInv 1 true dW_allFit),
  (false, 167, 1, sRetI),
  (false, 168, 1, sLdA 0),
  (false, 169, 3, sGet 0 (fun w i M => aR (1, 0, 0))),
  (false, 172, 3, sInv 1 true dW_clashes),
  (false, 175, 1, sRetI),
  (false, 176, 1, sLdA 0),
  (false, 177, 3, sGet 0 (fun w i M => aR (1, 0, 0))),
  (false, 180, 3, sInv 1 true dW_allOwed),
  (false, 183, 1, sRetI),
  (false, 184, 1, sLdA 0),
  (false, 185, 1, sC 1),
  (false, 186, 3, sInv 2 true dF_finding),
  (false, 189, 1, sRetI)]
theorem oF_count {E : EV} (hsd : E.2.2.2 = 0) (l : Launch) : AllOK E l 7 "FreeLances" prog_1_method_54_code 2 (some .int) outI (cF_count) := by
  refine ak (ok_iload_n (k := 1) rfl (by decide +kernel)) ?_
  refine ak (ok_table (df := 183) (lo := 0) (hi := 13) (offs := #[71, 79, 87, 95, 103, 111, 119, 127, 135, 143, 151, 159, 167, 175]) (by decide) (by decide) (by decide) (by decide +kernel)) ?_
  refine ak (ok_aload_n (k := 0) rfl (by decide +kernel)) ?_
  refine ak (ok_get (k := 0) ck10 kd0 (by decide) (fun _ _ _ => rfl) (vf_0_0 hsd) tw522 (by decide +kernel)) ?_
  refine ak (ok_get (k := 2) ck9 kd1 (by decide) (fun _ _ _ => rfl) (fun _ _ _ _ _ => trivial) tw391 (by decide +kernel)) ?_
  refine ak (ok_ireturn rfl (by decide +kernel)) ?_
  refine ak (ok_aload_n (k := 0) rfl (by decide +kernel)) ?_
  refine ak (ok_get (k := 0) ck10 kd0 (by decide) (fun _ _ _ => rfl) (vf_0_0 hsd) tw522 (by decide +kernel)) ?_
  refine ak (ok_get (k := 3) ck9 kd1 (by decide) (fun _ _ _ => rfl) (fun _ _ _ _ _ => trivial) tw394 (by decide +kernel)) ?_
  refine ak (ok_ireturn rfl (by decide +kernel)) ?_
  refine ak (ok_aload_n (k := 0) rfl (by decide +kernel)) ?_
  refine ak (ok_get (k := 0) ck10 kd0 (by decide) (fun _ _ _ => rfl) (vf_0_0 hsd) tw522 (by decide +kernel)) ?_
  refine ak (ok_get (k := 6) ck9 kd1 (by decide) (fun _ _ _ => rfl) (fun _ _ _ _ _ => trivial) tw401 (by decide +kernel)) ?_
  refine ak (ok_ireturn rfl (by decide +kernel)) ?_
  refine ak (ok_aload_n (k := 0) rfl (by decide +kernel)) ?_
  refine ak (ok_get (k := 0) ck10 kd0 (by decide) (fun _ _ _ => rfl) (vf_0_0 hsd) tw522 (by decide +kernel)) ?_
  refine ak (ok_get (k := 8) ck9 kd1 (by decide) (fun _ _ _ => rfl) (fun _ _ _ _ _ => trivial) tw405 (by decide +kernel)) ?_
  refine ak (ok_ireturn rfl (by decide +kernel)) ?_
  refine ak (ok_aload_n (k := 0) rfl (by decide +kernel)) ?_
  refine ak (ok_get (k := 0) ck10 kd0 (by decide) (fun _ _ _ => rfl) (vf_0_0 hsd) tw522 (by decide +kernel)) ?_
  refine ak (ok_get (k := 10) ck9 kd1 (by decide) (fun _ _ _ => rfl) (fun _ _ _ _ _ => trivial) tw409 (by decide +kernel)) ?_
  refine ak (ok_ireturn rfl (by decide +kernel)) ?_
  refine ak (ok_aload_n (k := 0) rfl (by decide +kernel)) ?_
  refine ak (ok_get (k := 0) ck10 kd0 (by decide) (fun _ _ _ => rfl) (vf_0_0 hsd) tw522 (by decide +kernel)) ?_
  refine ak (ok_get (k := 12) ck9 kd1 (by decide) (fun _ _ _ => rfl) (fun _ _ _ _ _ => trivial) tw413 (by decide +kernel)) ?_
  refine ak (ok_ireturn rfl (by decide +kernel)) ?_
  refine ak (ok_aload_n (k := 0) rfl (by decide +kernel)) ?_
  refine ak (ok_get (k := 0) ck10 kd0 (by decide) (fun _ _ _ => rfl) (vf_0_0 hsd) tw522 (by decide +kernel)) ?_
  refine ak (ok_get (k := 0) ck9 kd1 (by decide) (fun _ _ _ => rfl) (fun _ _ _ _ _ => trivial) tw387 (by decide +kernel)) ?_
  refine ak (ok_ireturn rfl (by decide +kernel)) ?_
  refine ak (ok_aload_n (k := 0) rfl (by decide +kernel)) ?_
  refine ak (ok_get (k := 0) ck10 kd0 (by decide) (fun _ _ _ => rfl) (vf_0_0 hsd) tw522 (by decide +kernel)) ?_
  refine ak (ok_get (k := 14) ck9 kd1 (by decide) (fun _ _ _ => rfl) (fun _ _ _ _ _ => trivial) tw417 (by decide +kernel)) ?_
  refine ak (ok_ireturn rfl (by decide +kernel)) ?_
  refine ak (ok_aload_n (k := 0) rfl (by decide +kernel)) ?_
  refine ak (ok_get (k := 4) ck10 kd0 (by decide) (fun _ _ _ => rfl) (vf_0_4 hsd) tw526 (by decide +kernel)) ?_
  refine ak (ok_get (k := 1) ck8 kd21 (by decide) (fun _ _ _ => rfl) (fun _ _ _ _ _ => trivial) tw494 (by decide +kernel)) ?_
  refine ak (ok_ireturn rfl (by decide +kernel)) ?_
  refine ak (ok_aload_n (k := 0) rfl (by decide +kernel)) ?_
  refine ak (ok_get (k := 0) ck10 kd0 (by decide) (fun _ _ _ => rfl) (vf_0_0 hsd) tw522 (by decide +kernel)) ?_
  refine ak (ok_get (k := 16) ck9 kd1 (by decide) (fun _ _ _ => rfl) (fun _ _ _ _ _ => trivial) tw421 (by decide +kernel)) ?_
  refine ak (ok_ireturn rfl (by decide +kernel)) ?_
  refine ak (ok_aload_n (k := 0) rfl (by decide +kernel)) ?_
  refine ak (ok_get (k := 0) ck10 kd0 (by decide) (fun _ _ _ => rfl) (vf_0_0 hsd) tw522 (by decide +kernel)) ?_
  refine ak (ok_invV (r := 1) (kW_allCoin hsd l) qW_allCoin ck9 kd1 iW_allCoin tw1216 tw1217 (by decide) tw1215 (by decide +kernel)) ?_
  refine ak (ok_ireturn rfl (by decide +kernel)) ?_
  refine ak (ok_aload_n (k := 0) rfl (by decide +kernel)) ?_
  refine ak (ok_get (k := 0) ck10 kd0 (by decide) (fun _ _ _ => rfl) (vf_0_0 hsd) tw522 (by decide +kernel)) ?_
  refine ak (ok_invV (r := 1) (kW_allFit hsd l) qW_allFit ck9 kd1 iW_allFit tw1220 tw1221 (by decide) tw1219 (by decide +kernel)) ?_
  refine ak (ok_ireturn rfl (by decide +kernel)) ?_
  refine ak (ok_aload_n (k := 0) rfl (by decide +kernel)) ?_
  refine ak (ok_get (k := 0) ck10 kd0 (by decide) (fun _ _ _ => rfl) (vf_0_0 hsd) tw522 (by decide +kernel)) ?_
  refine ak (ok_invV (r := 1) (kW_clashes hsd l) qW_clashes ck9 kd1 iW_clashes tw1224 tw1225 (by decide) tw1223 (by decide +kernel)) ?_
  refine ak (ok_ireturn rfl (by decide +kernel)) ?_
  refine ak (ok_aload_n (k := 0) rfl (by decide +kernel)) ?_
  refine ak (ok_get (k := 0) ck10 kd0 (by decide) (fun _ _ _ => rfl) (vf_0_0 hsd) tw522 (by decide +kernel)) ?_
  refine ak (ok_invV (r := 1) (kW_allOwed hsd l) qW_allOwed ck9 kd1 iW_allOwed tw1229 tw1230 (by decide) tw1228 (by decide +kernel)) ?_
  refine ak (ok_ireturn rfl (by decide +kernel)) ?_
  refine ak (ok_aload_n (k := 0) rfl (by decide +kernel)) ?_
  refine ak (ok_iconst (n := 1) (by decide) (by decide +kernel)) ?_
  refine ak (ok_invV (r := 0) (kF_finding hsd l) qF_finding ck10 kd0 iF_finding tw557 tw0 (by decide) tw555 (by decide +kernel)) ?_
  refine ak (ok_ireturn rfl (by decide +kernel)) ?_
  exact trivial
set_option maxRecDepth 1000000 in
theorem eF_count (x1 : Int32) (M : Mem) : run (cF_count) (fun _ _ _ _ => none) rtI 400 (seek (cF_count) 0) [aR (0, 0, 0), aI x1] [] M = mF_count x1 M := id rfl
theorem lF_count {E : EV} {l : Launch} {p : Program} {e : Env} {s : State} {m : MethodId} {args : Array Value} {below : List Frame} {meth : Method} {c : Code} (A : AllOK E l 7 "FreeLances" prog_1_method_54_code 2 (some .int) outI (cF_count)) (C : Cx E p s m args meth c "FreeLances" prog_1_method_54_code 2 (some .int)) : ∀ (x1 : Int32) (M : Mem) (res : (Int32 × Mem)), mF_count x1 M = some res → Wm E p l e 7 s m args below meth c 2 0 [aR (0, 0, 0), aI x1] [] M (outI res).1 (outI res).2 := by
  intro x1 M res h
  refine run_at C A rfl hrtI (n := 400) ((eF_count x1 M).trans h) ?_
  intro t als st M hk; cases hk
def dF_count {β : Type} : Den β := fun as M k => match as with
  | [.inr (.inr (.inl (al0, bl0, cl0))), .inl x1] => if al0 = 0 ∧ bl0 = 0 ∧ cl0 = 0 then (mF_count x1 M).bind fun q => k (aI q.1) q.2 else none
  | _ => none
theorem wF_count {E : EV} (hsd : E.2.2.2 = 0) (l : Launch) (x1 : Int32) (M : Mem) (q : (Int32 × Mem)) (hq : mF_count x1 M = some q) : Con E l 7 yF_count prog_1_method_54_code 2 (some .int) [aR (0, 0, 0), aI x1] M (outI q).1 (outI q).2 := by
  refine con_of iF_count (Nat.le_of_ble_eq_true rfl) ?_
  intro p e s m args below meth c C
  exact lF_count (oF_count hsd l) C x1 M _ hq
theorem kF_count {E : EV} (hsd : E.2.2.2 = 0) (l : Launch) {β : Type} : DenOK E l 7 yF_count prog_1_method_54_code 2 (some .int) true (dF_count (β := β)) := by
  intro as M k res h
  unfold dF_count at h
  split at h
  ·
    split at h
    · rename_i hc
      obtain ⟨rfl, rfl, rfl⟩ := hc
      obtain ⟨q, hq, hk⟩ := Option.bind_eq_some_iff.mp h
      exact ⟨aI q.1, q.2, hk, rfl, wF_count hsd l _ M q hq⟩
    · cases h
  · cases h
theorem qF_count {β : Type} : RecOK 0 (dF_count (β := β)) := by
  intro as M k res h
  unfold dF_count at h
  split at h
  ·
    split at h
    · rename_i hc
      obtain ⟨rfl, rfl, rfl⟩ := hc
      exact ⟨_, _, _, rfl⟩
    · cases h
  · cases h
/-! ===== FreeLances.found(I)I ===== -/
abbrev yF_found : MethodName := ⟨"FreeLances", "found", "(I)I"⟩
theorem iF_found : MI yF_found prog_1_method_55_code 2 (some .int) 1 := ⟨tw1235, tw97, ⟨by decide, by decide⟩, by decide +kernel, by decide, by decide⟩
def cF_found : List (Ent (Int32 × Mem)) := [(false, 0, 1, sLdI 1),
  (false, 1, 1, sC 1),
  (false, 2, 1, sC 5),
  (false, 3, 3, sInv 3 true dF_within),
  (false, 6, 3, sIfEq 18),
  (false, 9, 1, sLdA 0),
  (false, 10, 3, sGet 0 (fun w i M => aR (26, 0, 0))),
  (false, 13, 1, sLdI 1),
  (false, 14, 1, sIald 26 6),
  (false, 15, 3, sGoto 23),
  (false, 18, 1, sLdA 0),
  (false, 19, 1, sC 1),
  (false, 20, 3, sInv 2 true dF_finding),
  (false, 23, 1, sRetI)]
theorem oF_found {E : EV} (hsd : E.2.2.2 = 0) (l : Launch) : AllOK E l 2 "FreeLances" prog_1_method_55_code 2 (some .int) outI (cF_found) := by
  refine ak (ok_iload_n (k := 1) rfl (by decide +kernel)) ?_
  refine ak (ok_iconst (n := 1) (by decide) (by decide +kernel)) ?_
  refine ak (ok_iconst (n := 5) (by decide) (by decide +kernel)) ?_
  refine ak (ok_invS (kF_within hsd l) iF_within tw553 (by decide) tw552 (by decide +kernel)) ?_
  refine ak (ok_if_eq (off := 12) (by decide) (by decide +kernel)) ?_
  refine ak (ok_aload_n (k := 0) rfl (by decide +kernel)) ?_
  refine ak (ok_get (k := 6) ck10 kd0 (by decide) (fun _ _ _ => rfl) (vf_0_6 hsd) tw528 (by decide +kernel)) ?_
  refine ak (ok_iload_n (k := 1) rfl (by decide +kernel)) ?_
  refine ak (ok_iald kd26 (by decide) (by decide +kernel)) ?_
  refine ak (ok_goto (off := 8) (by decide) (by decide +kernel)) ?_
  refine ak (ok_aload_n (k := 0) rfl (by decide +kernel)) ?_
  refine ak (ok_iconst (n := 1) (by decide) (by decide +kernel)) ?_
  refine ak (ok_invV (r := 0) (kF_finding hsd l) qF_finding ck10 kd0 iF_finding tw557 tw0 (by decide) tw555 (by decide +kernel)) ?_
  refine ak (ok_ireturn rfl (by decide +kernel)) ?_
  exact trivial
set_option maxRecDepth 1000000 in
theorem eF_found (x1 : Int32) (M : Mem) : run (cF_found) (fun _ _ _ _ => none) rtI 400 (seek (cF_found) 0) [aR (0, 0, 0), aI x1] [] M = mF_found x1 M := id rfl
theorem lF_found {E : EV} {l : Launch} {p : Program} {e : Env} {s : State} {m : MethodId} {args : Array Value} {below : List Frame} {meth : Method} {c : Code} (A : AllOK E l 2 "FreeLances" prog_1_method_55_code 2 (some .int) outI (cF_found)) (C : Cx E p s m args meth c "FreeLances" prog_1_method_55_code 2 (some .int)) : ∀ (x1 : Int32) (M : Mem) (res : (Int32 × Mem)), mF_found x1 M = some res → Wm E p l e 2 s m args below meth c 2 0 [aR (0, 0, 0), aI x1] [] M (outI res).1 (outI res).2 := by
  intro x1 M res h
  refine run_at C A rfl hrtI (n := 400) ((eF_found x1 M).trans h) ?_
  intro t als st M hk; cases hk
def dF_found {β : Type} : Den β := fun as M k => match as with
  | [.inr (.inr (.inl (al0, bl0, cl0))), .inl x1] => if al0 = 0 ∧ bl0 = 0 ∧ cl0 = 0 then (mF_found x1 M).bind fun q => k (aI q.1) q.2 else none
  | _ => none
theorem wF_found {E : EV} (hsd : E.2.2.2 = 0) (l : Launch) (x1 : Int32) (M : Mem) (q : (Int32 × Mem)) (hq : mF_found x1 M = some q) : Con E l 2 yF_found prog_1_method_55_code 2 (some .int) [aR (0, 0, 0), aI x1] M (outI q).1 (outI q).2 := by
  refine con_of iF_found (Nat.le_of_ble_eq_true rfl) ?_
  intro p e s m args below meth c C
  exact lF_found (oF_found hsd l) C x1 M _ hq
theorem kF_found {E : EV} (hsd : E.2.2.2 = 0) (l : Launch) {β : Type} : DenOK E l 2 yF_found prog_1_method_55_code 2 (some .int) true (dF_found (β := β)) := by
  intro as M k res h
  unfold dF_found at h
  split at h
  ·
    split at h
    · rename_i hc
      obtain ⟨rfl, rfl, rfl⟩ := hc
      obtain ⟨q, hq, hk⟩ := Option.bind_eq_some_iff.mp h
      exact ⟨aI q.1, q.2, hk, rfl, wF_found hsd l _ M q hq⟩
    · cases h
  · cases h
theorem qF_found {β : Type} : RecOK 0 (dF_found (β := β)) := by
  intro as M k res h
  unfold dF_found at h
  split at h
  ·
    split at h
    · rename_i hc
      obtain ⟨rfl, rfl, rfl⟩ := hc
      exact ⟨_, _, _, rfl⟩
    · cases h
  · cases h
/-! ===== FreeLancesModel.in(III)Z ===== -/
abbrev yK_in : MethodName := ⟨"FreeLancesModel", "in", "(III)Z"⟩
theorem iK_in : MI yK_in prog_13_method_3_code 3 (some .boolean) 3 := ⟨tw1331, tw108, ⟨by decide, by decide⟩, by decide +kernel, by decide, by decide⟩
def cK_in : List (Ent (Int32 × Mem)) := [(false, 0, 1, sLdI 0),
  (false, 1, 1, sLdI 1),
  (false, 2, 3, sCmpLt 14),
  (false, 5, 1, sLdI 0),
  (false, 6, 1, sLdI 2),
  (false, 7, 3, sCmpGt 14),
  (false, 10, 1, sC 1),
  (false, 11, 3, sGoto 15),
  (false, 14, 1, sC 0),
  (false, 15, 1, sRetZ)]
theorem oK_in {E : EV} (hsd : E.2.2.2 = 1) (l : Launch) : AllOK E l 1 "FreeLancesModel" prog_13_method_3_code 3 (some .boolean) outI (cK_in) := by
  refine ak (ok_iload_n (k := 0) rfl (by decide +kernel)) ?_
  refine ak (ok_iload_n (k := 1) rfl (by decide +kernel)) ?_
  refine ak (ok_icmp_lt (off := 12) (by decide) (by decide +kernel)) ?_
  refine ak (ok_iload_n (k := 0) rfl (by decide +kernel)) ?_
  refine ak (ok_iload_n (k := 2) rfl (by decide +kernel)) ?_
  refine ak (ok_icmp_gt (off := 7) (by decide) (by decide +kernel)) ?_
  refine ak (ok_iconst (n := 1) (by decide) (by decide +kernel)) ?_
  refine ak (ok_goto (off := 4) (by decide) (by decide +kernel)) ?_
  refine ak (ok_iconst (n := 0) (by decide) (by decide +kernel)) ?_
  refine ak (ok_zreturn rfl (by decide +kernel)) ?_
  exact trivial
set_option maxRecDepth 1000000 in
theorem eK_in (x0 : Int32) (x1 : Int32) (x2 : Int32) (M : Mem) : run (cK_in) (fun _ _ _ _ => none) rtI 400 (seek (cK_in) 0) [aI x0, aI x1, aI x2] [] M = mK_in x0 x1 x2 M := id rfl
theorem lK_in {E : EV} {l : Launch} {p : Program} {e : Env} {s : State} {m : MethodId} {args : Array Value} {below : List Frame} {meth : Method} {c : Code} (A : AllOK E l 1 "FreeLancesModel" prog_13_method_3_code 3 (some .boolean) outI (cK_in)) (C : Cx E p s m args meth c "FreeLancesModel" prog_13_method_3_code 3 (some .boolean)) : ∀ (x0 : Int32) (x1 : Int32) (x2 : Int32) (M : Mem) (res : (Int32 × Mem)), mK_in x0 x1 x2 M = some res → Wm E p l e 1 s m args below meth c 3 0 [aI x0, aI x1, aI x2] [] M (outI res).1 (outI res).2 := by
  intro x0 x1 x2 M res h
  refine run_at C A rfl hrtI (n := 400) ((eK_in x0 x1 x2 M).trans h) ?_
  intro t als st M hk; cases hk
def dK_in {β : Type} : Den β := fun as M k => match as with
  | [.inl x0, .inl x1, .inl x2] => (mK_in x0 x1 x2 M).bind fun q => k (aI q.1) q.2
  | _ => none
theorem wK_in {E : EV} (hsd : E.2.2.2 = 1) (l : Launch) (x0 : Int32) (x1 : Int32) (x2 : Int32) (M : Mem) (q : (Int32 × Mem)) (hq : mK_in x0 x1 x2 M = some q) : Con E l 1 yK_in prog_13_method_3_code 3 (some .boolean) [aI x0, aI x1, aI x2] M (outI q).1 (outI q).2 := by
  refine con_of iK_in (Nat.le_of_ble_eq_true rfl) ?_
  intro p e s m args below meth c C
  exact lK_in (oK_in hsd l) C x0 x1 x2 M _ hq
theorem kK_in {E : EV} (hsd : E.2.2.2 = 1) (l : Launch) {β : Type} : DenOK E l 1 yK_in prog_13_method_3_code 3 (some .boolean) true (dK_in (β := β)) := by
  intro as M k res h
  unfold dK_in at h
  split at h
  · obtain ⟨q, hq, hk⟩ := Option.bind_eq_some_iff.mp h
    exact ⟨aI q.1, q.2, hk, rfl, wK_in hsd l _ _ _ M q hq⟩
  · cases h
/-! ===== FreeLancesModel.finds(I)I ===== -/
abbrev yK_finds : MethodName := ⟨"FreeLancesModel", "finds", "(I)I"⟩
theorem iK_finds : MI yK_finds prog_13_method_4_code 2 (some .int) 1 := ⟨tw1335, tw108, ⟨by decide, by decide⟩, by decide +kernel, by decide, by decide⟩
def cK_finds : List (Ent (Int32 × Mem)) := [(false, 0, 1, sLdA 0),
  (false, 1, 3, sGet 40 (fun w i M => aR (44, 0, 0))),
  (false, 4, 1, sLdI 1),
  (false, 5, 1, sDup2),
  (false, 6, 1, sIald 44 6),
  (false, 7, 1, sC 1),
  (false, 8, 1, sBin (fun x y => x + y)),
  (false, 9, 1, sIast 44 6),
  (false, 10, 2, sC (-1000000)),
  (false, 12, 1, sLdI 1),
  (false, 13, 1, sBin (fun x y => x - y)),
  (false, 14, 1, sRetI)]
theorem oK_finds {E : EV} (hsd : E.2.2.2 = 1) (l : Launch) : AllOK E l 1 "FreeLancesModel" prog_13_method_4_code 2 (some .int) outI (cK_finds) := by
  refine ak (ok_aload_n (k := 0) rfl (by decide +kernel)) ?_
  refine ak (ok_get (k := 3) ck11 kd40 (by decide) (fun _ _ _ => rfl) (vf_40_3 hsd) tw1245 (by decide +kernel)) ?_
  refine ak (ok_iload_n (k := 1) rfl (by decide +kernel)) ?_
  refine ak (ok_dup2 (by decide +kernel)) ?_
  refine ak (ok_iald kd44 (by decide) (by decide +kernel)) ?_
  refine ak (ok_iconst (n := 1) (by decide) (by decide +kernel)) ?_
  refine ak (ok_iadd (by decide +kernel)) ?_
  refine ak (ok_iast kd44 (by decide) (by decide) (by decide +kernel)) ?_
  refine ak (ok_ldc tw1336 (by decide +kernel)) ?_
  refine ak (ok_iload_n (k := 1) rfl (by decide +kernel)) ?_
  refine ak (ok_isub (by decide +kernel)) ?_
  refine ak (ok_ireturn rfl (by decide +kernel)) ?_
  exact trivial
set_option maxRecDepth 1000000 in
theorem eK_finds (x1 : Int32) (M : Mem) : run (cK_finds) (fun _ _ _ _ => none) rtI 400 (seek (cK_finds) 0) [aR (40, 0, 0), aI x1] [] M = mK_finds x1 M := id rfl
theorem lK_finds {E : EV} {l : Launch} {p : Program} {e : Env} {s : State} {m : MethodId} {args : Array Value} {below : List Frame} {meth : Method} {c : Code} (A : AllOK E l 1 "FreeLancesModel" prog_13_method_4_code 2 (some .int) outI (cK_finds)) (C : Cx E p s m args meth c "FreeLancesModel" prog_13_method_4_code 2 (some .int)) : ∀ (x1 : Int32) (M : Mem) (res : (Int32 × Mem)), mK_finds x1 M = some res → Wm E p l e 1 s m args below meth c 2 0 [aR (40, 0, 0), aI x1] [] M (outI res).1 (outI res).2 := by
  intro x1 M res h
  refine run_at C A rfl hrtI (n := 400) ((eK_finds x1 M).trans h) ?_
  intro t als st M hk; cases hk
def dK_finds {β : Type} : Den β := fun as M k => match as with
  | [.inr (.inr (.inl (al0, bl0, cl0))), .inl x1] => if al0 = 40 ∧ bl0 = 0 ∧ cl0 = 0 then (mK_finds x1 M).bind fun q => k (aI q.1) q.2 else none
  | _ => none
theorem wK_finds {E : EV} (hsd : E.2.2.2 = 1) (l : Launch) (x1 : Int32) (M : Mem) (q : (Int32 × Mem)) (hq : mK_finds x1 M = some q) : Con E l 1 yK_finds prog_13_method_4_code 2 (some .int) [aR (40, 0, 0), aI x1] M (outI q).1 (outI q).2 := by
  refine con_of iK_finds (Nat.le_of_ble_eq_true rfl) ?_
  intro p e s m args below meth c C
  exact lK_finds (oK_finds hsd l) C x1 M _ hq
theorem kK_finds {E : EV} (hsd : E.2.2.2 = 1) (l : Launch) {β : Type} : DenOK E l 1 yK_finds prog_13_method_4_code 2 (some .int) true (dK_finds (β := β)) := by
  intro as M k res h
  unfold dK_finds at h
  split at h
  ·
    split at h
    · rename_i hc
      obtain ⟨rfl, rfl, rfl⟩ := hc
      obtain ⟨q, hq, hk⟩ := Option.bind_eq_some_iff.mp h
      exact ⟨aI q.1, q.2, hk, rfl, wK_finds hsd l _ M q hq⟩
    · cases h
  · cases h
theorem qK_finds {β : Type} : RecOK 40 (dK_finds (β := β)) := by
  intro as M k res h
  unfold dK_finds at h
  split at h
  ·
    split at h
    · rename_i hc
      obtain ⟨rfl, rfl, rfl⟩ := hc
      exact ⟨_, _, _, rfl⟩
    · cases h
  · cases h
/-! ===== FreeLancesModel.town(II)I ===== -/
abbrev yK_town : MethodName := ⟨"FreeLancesModel", "town", "(II)I"⟩
theorem iK_town : MI yK_town prog_13_method_19_code 4 (some .int) 2 := ⟨tw1327, tw108, ⟨by decide, by decide⟩, by decide +kernel, by decide, by decide⟩
def cK_town : List (Ent (Int32 × Mem)) := [(false, 0, 1, sLdI 1),
  (false, 1, 1, sC 0),
  (false, 2, 2, sC 99999),
  (false, 4, 3, sInv 3 true dK_in),
  (false, 7, 3, sIfEq 20),
  (false, 10, 1, sLdI 2),
  (false, 11, 1, sC 0),
  (false, 12, 2, sC 99999),
  (false, 14, 3, sInv 3 true dK_in),
  (false, 17, 3, sIfNe 26),
  (false, 20, 1, sLdA 0),
  (false, 21, 1, sC 1),
  (false, 22, 3, sInv 2 true dK_finds),
  (false, 25, 1, sRetI),
  (false, 26, 1, sLdA 0),
  (false, 27, 3, sGet 40 (fun w i M => aR (41, 0, 0))),
  (false, 30, 1, sC 0),
  (false, 31, 1, sIald 41 1502),
  (false, 32, 1, sStI 3),
  (false, 33, 1, sLdI 3),
  (false, 34, 2, sC 8),
  (false, 36, 3, sCmpNe 45),
  (false, 39, 1, sLdA 0),
  (false, 40, 1, sC 4),
  (false, 41, 3, sInv 2 true dK_finds),
  (false, 44, 1, sRetI),
  (false, 45, 1, sLdA 0),
  (false, 46, 3, sGet 40 (fun w i M => aR (41, 0, 0))),
  (false, 49, 1, sC 0),
  (false, 50, 1, sDup2),
  (false, 51, 1, sIald 41 1502),
  (false, 52, 1, sC 1),
  (false, 53, 1, sBin (fun x y => x + y)),
  (false, 54, 1, sIast 41 1502),
  (false, 55, 1, sLdA 0),
  (false, 56, 3, sGet 40 (fun w i M => aR (41, 0, 0))),
  (false, 59, 2, sC 20),
  (false, 61, 1, sC 4),
  (false, 62, 1, sLdI 3),
  (false, 63, 1, sBin (fun x y => x * y)),
  (false, 64, 1, sBin (fun x y => x + y)),
  (false, 65, 1, sLdI 1),
  (false, 66, 1, sIast 41 1502),
  (false, 67, 1, sLdA 0),
  (false, 68, 3, sGet 40 (fun w i M => aR (41, 0, 0))),
  (false, 71, 2, sC 20),
  (false, 73, 1, sC 4),
  (false, 74, 1, sLdI 3),
  (false, 75, 1, sBin (fun x y => x * y)),
  (false, 76, 1, sBin (fun x y => x + y)),
  (false, 77, 1, sC 1),
  (false, 78, 1, sBin (fun x y => x + y)),
  (false, 79, 1, sLdI 2),
  (false, 80, 1, sIast 41 1502),
  (false, 81, 1, sLdA 0),
  (false, 82, 3, sGet 40 (fun w i M => aR (41, 0, 0))),
  (false, 85, 2, sC 20),
  (false, 87, 1, sC 4),
  (false, 88, 1, sLdI 3),
  (false, 89, 1, sBin (fun x y => x * y)),
  (false, 90, 1, sBin (fun x y => x + y)),
  (false, 91, 1, sC 2),
  (false, 92, 1, sBin (fun x y => x + y)),
  (false, 93, 2, sC 100),
  (false, 95, 1, sIast 41 1502),
  (false, 96, 1, sLdA 0),
  (false, 97, 3, sGet 40 (fun w i M => aR (41, 0, 0))),
  (false, 100, 2, sC 20),
  (false, 102, 1, sC 4),
  (false, 103, 1, sLdI 3),
  (false, 104, 1, sBin (fun x y => x * y)),
  (false, 105, 1, sBin (fun x y => x + y)),
  (false, 106, 1, sC 3),
  (false, 107, 1, sBin (fun x y => x + y)),
  (false, 108, 1, sC 0),
  (false, 109, 1, sIast 41 1502),
  (false, 110, 1, sLdI 3),
  (false, 111, 1, sRetI)]
theorem oK_town {E : EV} (hsd : E.2.2.2 = 1) (l : Launch) : AllOK E l 2 "FreeLancesModel" prog_13_method_19_code 4 (some .int) outI (cK_town) := by
  refine ak (ok_iload_n (k := 1) rfl (by decide +kernel)) ?_
  refine ak (ok_iconst (n := 0) (by decide) (by decide +kernel)) ?_
  refine ak (ok_ldc tw1328 (by decide +kernel)) ?_
  refine ak (ok_invS (kK_in hsd l) iK_in tw1330 (by decide) tw1329 (by decide +kernel)) ?_
  refine ak (ok_if_eq (off := 13) (by decide) (by decide +kernel)) ?_
  refine ak (ok_iload_n (k := 2) rfl (by decide +kernel)) ?_
  refine ak (ok_iconst (n := 0) (by decide) (by decide +kernel)) ?_
  refine ak (ok_ldc tw1328 (by decide +kernel)) ?_
  refine ak (ok_invS (kK_in hsd l) iK_in tw1330 (by decide) tw1329 (by decide +kernel)) ?_
  refine ak (ok_if_ne (off := 9) (by decide) (by decide +kernel)) ?_
  refine ak (ok_aload_n (k := 0) rfl (by decide +kernel)) ?_
  refine ak (ok_iconst (n := 1) (by decide) (by decide +kernel)) ?_
  refine ak (ok_invV (r := 40) (kK_finds hsd l) qK_finds ck11 kd40 iK_finds tw1334 tw37 (by decide) tw1332 (by decide +kernel)) ?_
  refine ak (ok_ireturn rfl (by decide +kernel)) ?_
  refine ak (ok_aload_n (k := 0) rfl (by decide +kernel)) ?_
  refine ak (ok_get (k := 0) ck11 kd40 (by decide) (fun _ _ _ => rfl) (vf_40_0 hsd) tw1242 (by decide +kernel)) ?_
  refine ak (ok_iconst (n := 0) (by decide) (by decide +kernel)) ?_
  refine ak (ok_iald kd41 (by decide) (by decide +kernel)) ?_
  refine ak (ok_istore_n (k := 3) rfl (by decide) (by decide +kernel)) ?_
  refine ak (ok_iload_n (k := 3) rfl (by decide +kernel)) ?_
  refine ak (ok_bipush (n := 8) (by decide) (by decide +kernel)) ?_
  refine ak (ok_icmp_ne (off := 9) (by decide) (by decide +kernel)) ?_
  refine ak (ok_aload_n (k := 0) rfl (by decide +kernel)) ?_
  refine ak (ok_iconst (n := 4) (by decide) (by decide +kernel)) ?_
  refine ak (ok_invV (r := 40) (kK_finds hsd l) qK_finds ck11 kd40 iK_finds tw1334 tw37 (by decide) tw1332 (by decide +kernel)) ?_
  refine ak (ok_ireturn rfl (by decide +kernel)) ?_
  refine ak (ok_aload_n (k := 0) rfl (by decide +kernel)) ?_
  refine ak (ok_get (k := 0) ck11 kd40 (by decide) (fun _ _ _ => rfl) (vf_40_0 hsd) tw1242 (by decide +kernel)) ?_
  refine ak (ok_iconst (n := 0) (by decide) (by decide +kernel)) ?_
  refine ak (ok_dup2 (by decide +kernel)) ?_
  refine ak (ok_iald kd41 (by decide) (by decide +kernel)) ?_
  refine ak (ok_iconst (n := 1) (by decide) (by decide +kernel)) ?_
  refine ak (ok_iadd (by decide +kernel)) ?_
  refine ak (ok_iast kd41 (by decide) (by decide) (by decide +kernel)) ?_
  refine ak (ok_aload_n (k := 0) rfl (by decide +kernel)) ?_
  refine ak (ok_get (k := 0) ck11 kd40 (by decide) (fun _ _ _ => rfl) (vf_40_0 hsd) tw1242 (by decide +kernel)) ?_
  refine ak (ok_bipush (n := 20) (by decide) (by decide +kernel)) ?_
  refine ak (ok_iconst (n := 4) (by decide) (by decide +kernel)) ?_
  refine ak (ok_iload_n (k := 3) rfl (by decide +kernel)) ?_
  refine ak (ok_imul (by decide +kernel)) ?_
  refine ak (ok_iadd (by decide +kernel)) ?_
  refine ak (ok_iload_n (k := 1) rfl (by decide +kernel)) ?_
  refine ak (ok_iast kd41 (by decide) (by decide) (by decide +kernel)) ?_
  refine ak (ok_aload_n (k := 0) rfl (by decide +kernel)) ?_
  refine ak (ok_get (k := 0) ck11 kd40 (by decide) (fun _ _ _ => rfl) (vf_40_0 hsd) tw1242 (by decide +kernel)) ?_
  refine ak (ok_bipush (n := 20) (by decide) (by decide +kernel)) ?_
  refine ak (ok_iconst (n := 4) (by decide) (by decide +kernel)) ?_
  refine ak (ok_iload_n (k := 3) rfl (by decide +kernel)) ?_
  refine ak (ok_imul (by decide +kernel)) ?_
  refine ak (ok_iadd (by decide +kernel)) ?_
  refine ak (ok_iconst (n := 1) (by decide) (by decide +kernel)) ?_
  refine ak (ok_iadd (by decide +kernel)) ?_
  refine ak (ok_iload_n (k := 2) rfl (by decide +kernel)) ?_
  refine ak (ok_iast kd41 (by decide) (by decide) (by decide +kernel)) ?_
  refine ak (ok_aload_n (k := 0) rfl (by decide +kernel)) ?_
  refine ak (ok_get (k := 0) ck11 kd40 (by decide) (fun _ _ _ => rfl) (vf_40_0 hsd) tw1242 (by decide +kernel)) ?_
  refine ak (ok_bipush (n := 20) (by decide) (by decide +kernel)) ?_
  refine ak (ok_iconst (n := 4) (by decide) (by decide +kernel)) ?_
  refine ak (ok_iload_n (k := 3) rfl (by decide +kernel)) ?_
  refine ak (ok_imul (by decide +kernel)) ?_
  refine ak (ok_iadd (by decide +kernel)) ?_
  refine ak (ok_iconst (n := 2) (by decide) (by decide +kernel)) ?_
  refine ak (ok_iadd (by decide +kernel)) ?_
  refine ak (ok_bipush (n := 100) (by decide) (by decide +kernel)) ?_
  refine ak (ok_iast kd41 (by decide) (by decide) (by decide +kernel)) ?_
  refine ak (ok_aload_n (k := 0) rfl (by decide +kernel)) ?_
  refine ak (ok_get (k := 0) ck11 kd40 (by decide) (fun _ _ _ => rfl) (vf_40_0 hsd) tw1242 (by decide +kernel)) ?_
  refine ak (ok_bipush (n := 20) (by decide) (by decide +kernel)) ?_
  refine ak (ok_iconst (n := 4) (by decide) (by decide +kernel)) ?_
  refine ak (ok_iload_n (k := 3) rfl (by decide +kernel)) ?_
  refine ak (ok_imul (by decide +kernel)) ?_
  refine ak (ok_iadd (by decide +kernel)) ?_
  refine ak (ok_iconst (n := 3) (by decide) (by decide +kernel)) ?_
  refine ak (ok_iadd (by decide +kernel)) ?_
  refine ak (ok_iconst (n := 0) (by decide) (by decide +kernel)) ?_
  refine ak (ok_iast kd41 (by decide) (by decide) (by decide +kernel)) ?_
  refine ak (ok_iload_n (k := 3) rfl (by decide +kernel)) ?_
  refine ak (ok_ireturn rfl (by decide +kernel)) ?_
  exact trivial
set_option maxRecDepth 1000000 in
theorem eK_town (x1 : Int32) (x2 : Int32) (M : Mem) : run (cK_town) (fun _ _ _ _ => none) rtI 400 (seek (cK_town) 0) [aR (40, 0, 0), aI x1, aI x2, aU] [] M = mK_town x1 x2 M := id rfl
theorem lK_town {E : EV} {l : Launch} {p : Program} {e : Env} {s : State} {m : MethodId} {args : Array Value} {below : List Frame} {meth : Method} {c : Code} (A : AllOK E l 2 "FreeLancesModel" prog_13_method_19_code 4 (some .int) outI (cK_town)) (C : Cx E p s m args meth c "FreeLancesModel" prog_13_method_19_code 4 (some .int)) : ∀ (x1 : Int32) (x2 : Int32) (M : Mem) (res : (Int32 × Mem)), mK_town x1 x2 M = some res → Wm E p l e 2 s m args below meth c 4 0 [aR (40, 0, 0), aI x1, aI x2, aU] [] M (outI res).1 (outI res).2 := by
  intro x1 x2 M res h
  refine run_at C A rfl hrtI (n := 400) ((eK_town x1 x2 M).trans h) ?_
  intro t als st M hk; cases hk
def dK_town {β : Type} : Den β := fun as M k => match as with
  | [.inr (.inr (.inl (al0, bl0, cl0))), .inl x1, .inl x2] => if al0 = 40 ∧ bl0 = 0 ∧ cl0 = 0 then (mK_town x1 x2 M).bind fun q => k (aI q.1) q.2 else none
  | _ => none
theorem wK_town {E : EV} (hsd : E.2.2.2 = 1) (l : Launch) (x1 : Int32) (x2 : Int32) (M : Mem) (q : (Int32 × Mem)) (hq : mK_town x1 x2 M = some q) : Con E l 2 yK_town prog_13_method_19_code 4 (some .int) [aR (40, 0, 0), aI x1, aI x2] M (outI q).1 (outI q).2 := by
  refine con_of iK_town (Nat.le_of_ble_eq_true rfl) ?_
  intro p e s m args below meth c C
  exact lK_town (oK_town hsd l) C x1 x2 M _ hq
theorem kK_town {E : EV} (hsd : E.2.2.2 = 1) (l : Launch) {β : Type} : DenOK E l 2 yK_town prog_13_method_19_code 4 (some .int) true (dK_town (β := β)) := by
  intro as M k res h
  unfold dK_town at h
  split at h
  ·
    split at h
    · rename_i hc
      obtain ⟨rfl, rfl, rfl⟩ := hc
      obtain ⟨q, hq, hk⟩ := Option.bind_eq_some_iff.mp h
      exact ⟨aI q.1, q.2, hk, rfl, wK_town hsd l _ _ M q hq⟩
    · cases h
  · cases h
theorem qK_town {β : Type} : RecOK 40 (dK_town (β := β)) := by
  intro as M k res h
  unfold dK_town at h
  split at h
  ·
    split at h
    · rename_i hc
      obtain ⟨rfl, rfl, rfl⟩ := hc
      exact ⟨_, _, _, rfl⟩
    · cases h
  · cases h
/-! ===== FreeLancesModel.isTown(I)Z ===== -/
abbrev yK_isTown : MethodName := ⟨"FreeLancesModel", "isTown", "(I)Z"⟩
theorem iK_isTown : MI yK_isTown prog_13_method_5_code 2 (some .boolean) 1 := ⟨tw1344, tw108, ⟨by decide, by decide⟩, by decide +kernel, by decide, by decide⟩
def cK_isTown : List (Ent (Int32 × Mem)) := [(false, 0, 1, sLdI 1),
  (false, 1, 1, sC 0),
  (false, 2, 1, sLdA 0),
  (false, 3, 3, sGet 40 (fun w i M => aR (41, 0, 0))),
  (false, 6, 1, sC 0),
  (false, 7, 1, sIald 41 1502),
  (false, 8, 1, sC 1),
  (false, 9, 1, sBin (fun x y => x - y)),
  (false, 10, 3, sInv 3 true dK_in),
  (false, 13, 1, sRetZ)]
theorem oK_isTown {E : EV} (hsd : E.2.2.2 = 1) (l : Launch) : AllOK E l 2 "FreeLancesModel" prog_13_method_5_code 2 (some .boolean) outI (cK_isTown) := by
  refine ak (ok_iload_n (k := 1) rfl (by decide +kernel)) ?_
  refine ak (ok_iconst (n := 0) (by decide) (by decide +kernel)) ?_
  refine ak (ok_aload_n (k := 0) rfl (by decide +kernel)) ?_
  refine ak (ok_get (k := 0) ck11 kd40 (by decide) (fun _ _ _ => rfl) (vf_40_0 hsd) tw1242 (by decide +kernel)) ?_
  refine ak (ok_iconst (n := 0) (by decide) (by decide +kernel)) ?_
  refine ak (ok_iald kd41 (by decide) (by decide +kernel)) ?_
  refine ak (ok_iconst (n := 1) (by decide) (by decide +kernel)) ?_
  refine ak (ok_isub (by decide +kernel)) ?_
  refine ak (ok_invS (kK_in hsd l) iK_in tw1330 (by decide) tw1329 (by decide +kernel)) ?_
  refine ak (ok_zreturn rfl (by decide +kernel)) ?_
  exact trivial
set_option maxRecDepth 1000000 in
theorem eK_isTown (x1 : Int32) (M : Mem) : run (cK_isTown) (fun _ _ _ _ => none) rtI 400 (seek (cK_isTown) 0) [aR (40, 0, 0), aI x1] [] M = mK_isTown x1 M := id rfl
theorem lK_isTown {E : EV} {l : Launch} {p : Program} {e : Env} {s : State} {m : MethodId} {args : Array Value} {below : List Frame} {meth : Method} {c : Code} (A : AllOK E l 2 "FreeLancesModel" prog_13_method_5_code 2 (some .boolean) outI (cK_isTown)) (C : Cx E p s m args meth c "FreeLancesModel" prog_13_method_5_code 2 (some .boolean)) : ∀ (x1 : Int32) (M : Mem) (res : (Int32 × Mem)), mK_isTown x1 M = some res → Wm E p l e 2 s m args below meth c 2 0 [aR (40, 0, 0), aI x1] [] M (outI res).1 (outI res).2 := by
  intro x1 M res h
  refine run_at C A rfl hrtI (n := 400) ((eK_isTown x1 M).trans h) ?_
  intro t als st M hk; cases hk
def dK_isTown {β : Type} : Den β := fun as M k => match as with
  | [.inr (.inr (.inl (al0, bl0, cl0))), .inl x1] => if al0 = 40 ∧ bl0 = 0 ∧ cl0 = 0 then (mK_isTown x1 M).bind fun q => k (aI q.1) q.2 else none
  | _ => none
theorem wK_isTown {E : EV} (hsd : E.2.2.2 = 1) (l : Launch) (x1 : Int32) (M : Mem) (q : (Int32 × Mem)) (hq : mK_isTown x1 M = some q) : Con E l 2 yK_isTown prog_13_method_5_code 2 (some .boolean) [aR (40, 0, 0), aI x1] M (outI q).1 (outI q).2 := by
  refine con_of iK_isTown (Nat.le_of_ble_eq_true rfl) ?_
  intro p e s m args below meth c C
  exact lK_isTown (oK_isTown hsd l) C x1 M _ hq
theorem kK_isTown {E : EV} (hsd : E.2.2.2 = 1) (l : Launch) {β : Type} : DenOK E l 2 yK_isTown prog_13_method_5_code 2 (some .boolean) true (dK_isTown (β := β)) := by
  intro as M k res h
  unfold dK_isTown at h
  split at h
  ·
    split at h
    · rename_i hc
      obtain ⟨rfl, rfl, rfl⟩ := hc
      obtain ⟨q, hq, hk⟩ := Option.bind_eq_some_iff.mp h
      exact ⟨aI q.1, q.2, hk, rfl, wK_isTown hsd l _ M q hq⟩
    · cases h
  · cases h
theorem qK_isTown {β : Type} : RecOK 40 (dK_isTown (β := β)) := by
  intro as M k res h
  unfold dK_isTown at h
  split at h
  ·
    split at h
    · rename_i hc
      obtain ⟨rfl, rfl, rfl⟩ := hc
      exact ⟨_, _, _, rfl⟩
    · cases h
  · cases h
/-! ===== FreeLancesModel.road(III)I ===== -/
abbrev yK_road : MethodName := ⟨"FreeLancesModel", "road", "(III)I"⟩
theorem iK_road : MI yK_road prog_13_method_20_code 5 (some .int) 3 := ⟨tw1340, tw108, ⟨by decide, by decide⟩, by decide +kernel, by decide, by decide⟩
def cK_road : List (Ent (Int32 × Mem)) := [(false, 0, 1, sLdA 0),
  (false, 1, 1, sLdI 1),
  (false, 2, 3, sInv 2 true dK_isTown),
  (false, 5, 3, sIfEq 31),
  (false, 8, 1, sLdA 0),
  (false, 9, 1, sLdI 2),
  (false, 10, 3, sInv 2 true dK_isTown),
  (false, 13, 3, sIfEq 31),
  (false, 16, 1, sLdI 1),
  (false, 17, 1, sLdI 2),
  (false, 18, 3, sCmpEq 31),
  (false, 21, 1, sLdI 3),
  (false, 22, 1, sC 1),
  (false, 23, 2, sC 9),
  (false, 25, 3, sInv 3 true dK_in),
  (false, 28, 3, sIfNe 37),
  (false, 31, 1, sLdA 0),
  (false, 32, 1, sC 1),
  (false, 33, 3, sInv 2 true dK_finds),
  (false, 36, 1, sRetI),
  (false, 37, 1, sLdA 0),
  (false, 38, 3, sGet 40 (fun w i M => aR (41, 0, 0))),
  (false, 41, 1, sC 1),
  (false, 42, 1, sIald 41 1502),
  (false, 43, 2, sStI 4),
  (false, 45, 2, sLdI 4),
  (false, 47, 2, sC 16),
  (false, 49, 3, sCmpNe 58),
  (false, 52, 1, sLdA 0),
  (false, 53, 1, sC 4),
  (false, 54, 3, sInv 2 true dK_finds),
  (false, 57, 1, sRetI),
  (false, 58, 1, sLdA 0),
  (false, 59, 3, sGet 40 (fun w i M => aR (41, 0, 0))),
  (false, 62, 1, sC 1),
  (false, 63, 1, sDup2),
  (false, 64, 1, sIald 41 1502),
  (false, 65, 1, sC 1),
  (false, 66, 1, sBin (fun x y => x + y)),
  (false, 67, 1, sIast 41 1502),
  (false, 68, 1, sLdA 0),
  (false, 69, 3, sGet 40 (fun w i M => aR (41, 0, 0))),
  (false, 72, 2, sC 52),
  (false, 74, 1, sC 3),
  (false, 75, 2, sLdI 4),
  (false, 77, 1, sBin (fun x y => x * y)),
  (false, 78, 1, sBin (fun x y => x + y)),
  (false, 79, 1, sLdI 1),
  (false, 80, 1, sIast 41 1502),
  (false, 81, 1, sLdA 0),
  (false, 82, 3, sGet 40 (fun w i M => aR (41, 0, 0))),
  (false, 85, 2, sC 52),
  (false, 87, 1, sC 3),
  (false, 88, 2, sLdI 4),
  (false, 90, 1, sBin (fun x y => x * y)),
  (false, 91, 1, sBin (fun x y => x + y)),
  (false, 92, 1, sC 1),
  (false, 93, 1, sBin (fun x y => x + y)),
  (false, 94, 1, sLdI 2),
  (false, 95, 1, sIast 41 1502),
  (false, 96, 1, sLdA 0),
  (false, 97, 3, sGet 40 (fun w i M => aR (41, 0, 0))),
  (false, 100, 2, sC 52),
  (false, 102, 1, sC 3),
  (false, 103, 2, sLdI 4),
  (false, 105, 1, sBin (fun x y => x * y)),
  (false, 106, 1, sBin (fun x y => x + y)),
  (false, 107, 1, sC 2),
  (false, 108, 1, sBin (fun x y => x + y)),
  (false, 109, 1, sLdI 3),
  (false, 110, 1, sIast 41 1502),
  (false, 111, 2, sLdI 4),
  (false, 113, 1, sC 1),
  (false, 114, 1, sBin (fun x y => x + y)),
  (false, 115, 1, sRetI)]
theorem oK_road {E : EV} (hsd : E.2.2.2 = 1) (l : Launch) : AllOK E l 3 "FreeLancesModel" prog_13_method_20_code 5 (some .int) outI (cK_road) := by
  refine ak (ok_aload_n (k := 0) rfl (by decide +kernel)) ?_
  refine ak (ok_iload_n (k := 1) rfl (by decide +kernel)) ?_
  refine ak (ok_invV (r := 40) (kK_isTown hsd l) qK_isTown ck11 kd40 iK_isTown tw1343 tw38 (by decide) tw1341 (by decide +kernel)) ?_
  refine ak (ok_if_eq (off := 26) (by decide) (by decide +kernel)) ?_
  refine ak (ok_aload_n (k := 0) rfl (by decide +kernel)) ?_
  refine ak (ok_iload_n (k := 2) rfl (by decide +kernel)) ?_
  refine ak (ok_invV (r := 40) (kK_isTown hsd l) qK_isTown ck11 kd40 iK_isTown tw1343 tw38 (by decide) tw1341 (by decide +kernel)) ?_
  refine ak (ok_if_eq (off := 18) (by decide) (by decide +kernel)) ?_
  refine ak (ok_iload_n (k := 1) rfl (by decide +kernel)) ?_
  refine ak (ok_iload_n (k := 2) rfl (by decide +kernel)) ?_
  refine ak (ok_icmp_eq (off := 13) (by decide) (by decide +kernel)) ?_
  refine ak (ok_iload_n (k := 3) rfl (by decide +kernel)) ?_
  refine ak (ok_iconst (n := 1) (by decide) (by decide +kernel)) ?_
  refine ak (ok_bipush (n := 9) (by decide) (by decide +kernel)) ?_
  refine ak (ok_invS (kK_in hsd l) iK_in tw1330 (by decide) tw1329 (by decide +kernel)) ?_
  refine ak (ok_if_ne (off := 9) (by decide) (by decide +kernel)) ?_
  refine ak (ok_aload_n (k := 0) rfl (by decide +kernel)) ?_
  refine ak (ok_iconst (n := 1) (by decide) (by decide +kernel)) ?_
  refine ak (ok_invV (r := 40) (kK_finds hsd l) qK_finds ck11 kd40 iK_finds tw1334 tw37 (by decide) tw1332 (by decide +kernel)) ?_
  refine ak (ok_ireturn rfl (by decide +kernel)) ?_
  refine ak (ok_aload_n (k := 0) rfl (by decide +kernel)) ?_
  refine ak (ok_get (k := 0) ck11 kd40 (by decide) (fun _ _ _ => rfl) (vf_40_0 hsd) tw1242 (by decide +kernel)) ?_
  refine ak (ok_iconst (n := 1) (by decide) (by decide +kernel)) ?_
  refine ak (ok_iald kd41 (by decide) (by decide +kernel)) ?_
  refine ak (ok_istore (by decide) (by decide +kernel)) ?_
  refine ak (ok_iload (by decide +kernel)) ?_
  refine ak (ok_bipush (n := 16) (by decide) (by decide +kernel)) ?_
  refine ak (ok_icmp_ne (off := 9) (by decide) (by decide +kernel)) ?_
  refine ak (ok_aload_n (k := 0) rfl (by decide +kernel)) ?_
  refine ak (ok_iconst (n := 4) (by decide) (by decide +kernel)) ?_
  refine ak (ok_invV (r := 40) (kK_finds hsd l) qK_finds ck11 kd40 iK_finds tw1334 tw37 (by decide) tw1332 (by decide +kernel)) ?_
  refine ak (ok_ireturn rfl (by decide +kernel)) ?_
  refine ak (ok_aload_n (k := 0) rfl (by decide +kernel)) ?_
  refine ak (ok_get (k := 0) ck11 kd40 (by decide) (fun _ _ _ => rfl) (vf_40_0 hsd) tw1242 (by decide +kernel)) ?_
  refine ak (ok_iconst (n := 1) (by decide) (by decide +kernel)) ?_
  refine ak (ok_dup2 (by decide +kernel)) ?_
  refine ak (ok_iald kd41 (by decide) (by decide +kernel)) ?_
  refine ak (ok_iconst (n := 1) (by decide) (by decide +kernel)) ?_
  refine ak (ok_iadd (by decide +kernel)) ?_
  refine ak (ok_iast kd41 (by decide) (by decide) (by decide +kernel)) ?_
  refine ak (ok_aload_n (k := 0) rfl (by decide +kernel)) ?_
  refine ak (ok_get (k := 0) ck11 kd40 (by decide) (fun _ _ _ => rfl) (vf_40_0 hsd) tw1242 (by decide +kernel)) ?_
  refine ak (ok_bipush (n := 52) (by decide) (by decide +kernel)) ?_
  refine ak (ok_iconst (n := 3) (by decide) (by decide +kernel)) ?_
  refine ak (ok_iload (by decide +kernel)) ?_
  refine ak (ok_imul (by decide +kernel)) ?_
  refine ak (ok_iadd (by decide +kernel)) ?_
  refine ak (ok_iload_n (k := 1) rfl (by decide +kernel)) ?_
  refine ak (ok_iast kd41 (by decide) (by decide) (by decide +kernel)) ?_
  refine ak (ok_aload_n (k := 0) rfl (by decide +kernel)) ?_
  refine ak (ok_get (k := 0) ck11 kd40 (by decide) (fun _ _ _ => rfl) (vf_40_0 hsd) tw1242 (by decide +kernel)) ?_
  refine ak (ok_bipush (n := 52) (by decide) (by decide +kernel)) ?_
  refine ak (ok_iconst (n := 3) (by decide) (by decide +kernel)) ?_
  refine ak (ok_iload (by decide +kernel)) ?_
  refine ak (ok_imul (by decide +kernel)) ?_
  refine ak (ok_iadd (by decide +kernel)) ?_
  refine ak (ok_iconst (n := 1) (by decide) (by decide +kernel)) ?_
  refine ak (ok_iadd (by decide +kernel)) ?_
  refine ak (ok_iload_n (k := 2) rfl (by decide +kernel)) ?_
  refine ak (ok_iast kd41 (by decide) (by decide) (by decide +kernel)) ?_
  refine ak (ok_aload_n (k := 0) rfl (by decide +kernel)) ?_
  refine ak (ok_get (k := 0) ck11 kd40 (by decide) (fun _ _ _ => rfl) (vf_40_0 hsd) tw1242 (by decide +kernel)) ?_
  refine ak (ok_bipush (n := 52) (by decide) (by decide +kernel)) ?_
  refine ak (ok_iconst (n := 3) (by decide) (by decide +kernel)) ?_
  refine ak (ok_iload (by decide +kernel)) ?_
  refine ak (ok_imul (by decide +kernel)) ?_
  refine ak (ok_iadd (by decide +kernel)) ?_
  refine ak (ok_iconst (n := 2) (by decide) (by decide +kernel)) ?_
  refine ak (ok_iadd (by decide +kernel)) ?_
  refine ak (ok_iload_n (k := 3) rfl (by decide +kernel)) ?_
  refine ak (ok_iast kd41 (by decide) (by decide) (by decide +kernel)) ?_
  refine ak (ok_iload (by decide +kernel)) ?_
  refine ak (ok_iconst (n := 1) (by decide) (by decide +kernel)) ?_
  refine ak (ok_iadd (by decide +kernel)) ?_
  refine ak (ok_ireturn rfl (by decide +kernel)) ?_
  exact trivial
set_option maxRecDepth 1000000 in
theorem eK_road (x1 : Int32) (x2 : Int32) (x3 : Int32) (M : Mem) : run (cK_road) (fun _ _ _ _ => none) rtI 400 (seek (cK_road) 0) [aR (40, 0, 0), aI x1, aI x2, aI x3, aU] [] M = mK_road x1 x2 x3 M := id rfl
theorem lK_road {E : EV} {l : Launch} {p : Program} {e : Env} {s : State} {m : MethodId} {args : Array Value} {below : List Frame} {meth : Method} {c : Code} (A : AllOK E l 3 "FreeLancesModel" prog_13_method_20_code 5 (some .int) outI (cK_road)) (C : Cx E p s m args meth c "FreeLancesModel" prog_13_method_20_code 5 (some .int)) : ∀ (x1 : Int32) (x2 : Int32) (x3 : Int32) (M : Mem) (res : (Int32 × Mem)), mK_road x1 x2 x3 M = some res → Wm E p l e 3 s m args below meth c 5 0 [aR (40, 0, 0), aI x1, aI x2, aI x3, aU] [] M (outI res).1 (outI res).2 := by
  intro x1 x2 x3 M res h
  refine run_at C A rfl hrtI (n := 400) ((eK_road x1 x2 x3 M).trans h) ?_
  intro t als st M hk; cases hk
def dK_road {β : Type} : Den β := fun as M k => match as with
  | [.inr (.inr (.inl (al0, bl0, cl0))), .inl x1, .inl x2, .inl x3] => if al0 = 40 ∧ bl0 = 0 ∧ cl0 = 0 then (mK_road x1 x2 x3 M).bind fun q => k (aI q.1) q.2 else none
  | _ => none
theorem wK_road {E : EV} (hsd : E.2.2.2 = 1) (l : Launch) (x1 : Int32) (x2 : Int32) (x3 : Int32) (M : Mem) (q : (Int32 × Mem)) (hq : mK_road x1 x2 x3 M = some q) : Con E l 3 yK_road prog_13_method_20_code 5 (some .int) [aR (40, 0, 0), aI x1, aI x2, aI x3] M (outI q).1 (outI q).2 := by
  refine con_of iK_road (Nat.le_of_ble_eq_true rfl) ?_
  intro p e s m args below meth c C
  exact lK_road (oK_road hsd l) C x1 x2 x3 M _ hq
theorem kK_road {E : EV} (hsd : E.2.2.2 = 1) (l : Launch) {β : Type} : DenOK E l 3 yK_road prog_13_method_20_code 5 (some .int) true (dK_road (β := β)) := by
  intro as M k res h
  unfold dK_road at h
  split at h
  ·
    split at h
    · rename_i hc
      obtain ⟨rfl, rfl, rfl⟩ := hc
      obtain ⟨q, hq, hk⟩ := Option.bind_eq_some_iff.mp h
      exact ⟨aI q.1, q.2, hk, rfl, wK_road hsd l _ _ _ M q hq⟩
    · cases h
  · cases h
theorem qK_road {β : Type} : RecOK 40 (dK_road (β := β)) := by
  intro as M k res h
  unfold dK_road at h
  split at h
  ·
    split at h
    · rename_i hc
      obtain ⟨rfl, rfl, rfl⟩ := hc
      exact ⟨_, _, _, rfl⟩
    · cases h
  · cases h
