/-! ===== FreeLances.truce(IIII)I ===== -/
abbrev yF_truce : MethodName := ⟨"FreeLances", "truce", "(IIII)I"⟩
theorem iF_truce : MI yF_truce prog_1_method_23_code 6 (some .int) 4 := ⟨tw840, tw97, ⟨by decide, by decide⟩, by decide +kernel, by decide, by decide⟩
def cF_truce : List (Ent (Int32 × Mem)) := [(false, 0, 1, sLdA 0),
  (false, 1, 1, sLdI 1),
  (false, 2, 3, sInv 2 true dF_isCompany),
  (false, 5, 3, sIfEq 30),
  (false, 8, 1, sLdA 0),
  (false, 9, 1, sLdI 2),
  (false, 10, 3, sInv 2 true dF_isCompany),
  (false, 13, 3, sIfEq 30),
  (false, 16, 1, sLdI 1),
  (false, 17, 1, sLdI 2),
  (false, 18, 3, sCmpEq 30),
  (false, 21, 1, sLdI 3),
  (false, 22, 2, sLdI 4),
  (false, 24, 3, sInv 2 true dF_areDays),
  (false, 27, 3, sIfNe 36),
  (false, 30, 1, sLdA 0),
  (false, 31, 1, sC 1),
  (false, 32, 3, sInv 2 true dF_finding),
  (false, 35, 1, sRetI),
  (false, 36, 1, sLdA 0),
  (false, 37, 3, sGet 0 (fun w i M => aR (1, 0, 0))),
  (false, 40, 3, sInv 1 true dW_bondsFull),
  (false, 43, 3, sIfEq 52),
  (false, 46, 1, sLdA 0),
  (false, 47, 1, sC 4),
  (false, 48, 3, sInv 2 true dF_finding),
  (false, 51, 1, sRetI),
  (false, 52, 1, sLdA 0),
  (false, 53, 1, sC 4),
  (false, 54, 1, sLdI 1),
  (false, 55, 1, sC 0),
  (false, 56, 3, sInv 4 true dF_newBond),
  (false, 59, 2, sStA 5),
  (false, 61, 2, sLdA 5),
  (false, 63, 1, sLdI 3),
  (false, 64, 3, sPut 15 2),
  (false, 67, 2, sLdA 5),
  (false, 69, 2, sLdI 4),
  (false, 71, 3, sPut 15 3),
  (false, 74, 2, sLdA 5),
  (false, 76, 1, sLdI 2),
  (false, 77, 3, sPut 15 7),
  (false, 80, 1, sLdA 0),
  (false, 81, 3, sGet 0 (fun w i M => aR (1, 0, 0))),
  (false, 84, 1, sDup),
  (false, 85, 3, sGet 1 (fun w i M => aI (M 1 w i 12))),
  (false, 88, 1, sDupX1),
  (false, 89, 1, sC 1),
  (false, 90, 1, sBin (fun x y => x + y)),
  (false, 91, 3, sPut 1 12),
  (false, 94, 1, sRetI)]
theorem oF_truce {E : EV} (hsd : E.2.2.2 = 0) (l : Launch) : AllOK E l 4 "FreeLances" prog_1_method_23_code 6 (some .int) outI (cF_truce) := by
  refine ak (ok_aload_n (k := 0) rfl (by decide +kernel)) ?_
  refine ak (ok_iload_n (k := 1) rfl (by decide +kernel)) ?_
  refine ak (ok_invV (r := 0) (kF_isCompany hsd l) qF_isCompany ck10 kd0 iF_isCompany tw620 tw2 (by decide) tw618 (by decide +kernel)) ?_
  refine ak (ok_if_eq (off := 25) (by decide) (by decide +kernel)) ?_
  refine ak (ok_aload_n (k := 0) rfl (by decide +kernel)) ?_
  refine ak (ok_iload_n (k := 2) rfl (by decide +kernel)) ?_
  refine ak (ok_invV (r := 0) (kF_isCompany hsd l) qF_isCompany ck10 kd0 iF_isCompany tw620 tw2 (by decide) tw618 (by decide +kernel)) ?_
  refine ak (ok_if_eq (off := 17) (by decide) (by decide +kernel)) ?_
  refine ak (ok_iload_n (k := 1) rfl (by decide +kernel)) ?_
  refine ak (ok_iload_n (k := 2) rfl (by decide +kernel)) ?_
  refine ak (ok_icmp_eq (off := 12) (by decide) (by decide +kernel)) ?_
  refine ak (ok_iload_n (k := 3) rfl (by decide +kernel)) ?_
  refine ak (ok_iload (by decide +kernel)) ?_
  refine ak (ok_invS (kF_areDays hsd l) iF_areDays tw806 (by decide) tw805 (by decide +kernel)) ?_
  refine ak (ok_if_ne (off := 9) (by decide) (by decide +kernel)) ?_
  refine ak (ok_aload_n (k := 0) rfl (by decide +kernel)) ?_
  refine ak (ok_iconst (n := 1) (by decide) (by decide +kernel)) ?_
  refine ak (ok_invV (r := 0) (kF_finding hsd l) qF_finding ck10 kd0 iF_finding tw557 tw0 (by decide) tw555 (by decide +kernel)) ?_
  refine ak (ok_ireturn rfl (by decide +kernel)) ?_
  refine ak (ok_aload_n (k := 0) rfl (by decide +kernel)) ?_
  refine ak (ok_get (k := 0) ck10 kd0 (by decide) (fun _ _ _ => rfl) (vf_0_0 hsd) tw522 (by decide +kernel)) ?_
  refine ak (ok_invV (r := 1) (kW_bondsFull hsd l) qW_bondsFull ck9 kd1 iW_bondsFull tw809 tw810 (by decide) tw808 (by decide +kernel)) ?_
  refine ak (ok_if_eq (off := 9) (by decide) (by decide +kernel)) ?_
  refine ak (ok_aload_n (k := 0) rfl (by decide +kernel)) ?_
  refine ak (ok_iconst (n := 4) (by decide) (by decide +kernel)) ?_
  refine ak (ok_invV (r := 0) (kF_finding hsd l) qF_finding ck10 kd0 iF_finding tw557 tw0 (by decide) tw555 (by decide +kernel)) ?_
  refine ak (ok_ireturn rfl (by decide +kernel)) ?_
  refine ak (ok_aload_n (k := 0) rfl (by decide +kernel)) ?_
  refine ak (ok_iconst (n := 4) (by decide) (by decide +kernel)) ?_
  refine ak (ok_iload_n (k := 1) rfl (by decide +kernel)) ?_
  refine ak (ok_iconst (n := 0) (by decide) (by decide +kernel)) ?_
  refine ak (ok_invV (r := 0) (kF_newBond hsd l) qF_newBond ck10 kd0 iF_newBond tw814 tw17 (by decide) tw812 (by decide +kernel)) ?_
  refine ak (ok_astore (by decide) (by decide +kernel)) ?_
  refine ak (ok_aload (by decide +kernel)) ?_
  refine ak (ok_iload_n (k := 3) rfl (by decide +kernel)) ?_
  refine ak (ok_put (k := 2) ck0 kd15 (by decide) (fun _ _ _ => rfl) rfl rfl (by decide) tw331 (by decide +kernel)) ?_
  refine ak (ok_aload (by decide +kernel)) ?_
  refine ak (ok_iload (by decide +kernel)) ?_
  refine ak (ok_put (k := 3) ck0 kd15 (by decide) (fun _ _ _ => rfl) rfl rfl (by decide) tw334 (by decide +kernel)) ?_
  refine ak (ok_aload (by decide +kernel)) ?_
  refine ak (ok_iload_n (k := 2) rfl (by decide +kernel)) ?_
  refine ak (ok_put (k := 7) ck0 kd15 (by decide) (fun _ _ _ => rfl) rfl rfl (by decide) tw346 (by decide +kernel)) ?_
  refine ak (ok_aload_n (k := 0) rfl (by decide +kernel)) ?_
  refine ak (ok_get (k := 0) ck10 kd0 (by decide) (fun _ _ _ => rfl) (vf_0_0 hsd) tw522 (by decide +kernel)) ?_
  refine ak (ok_dup (by decide +kernel)) ?_
  refine ak (ok_get (k := 12) ck9 kd1 (by decide) (fun _ _ _ => rfl) (fun _ _ _ _ _ => trivial) tw413 (by decide +kernel)) ?_
  refine ak (ok_dup_x1 (by decide +kernel)) ?_
  refine ak (ok_iconst (n := 1) (by decide) (by decide +kernel)) ?_
  refine ak (ok_iadd (by decide +kernel)) ?_
  refine ak (ok_put (k := 12) ck9 kd1 (by decide) (fun _ _ _ => rfl) rfl rfl (by decide) tw413 (by decide +kernel)) ?_
  refine ak (ok_ireturn rfl (by decide +kernel)) ?_
  exact trivial
set_option maxRecDepth 1000000 in
theorem eF_truce (x1 : Int32) (x2 : Int32) (x3 : Int32) (x4 : Int32) (M : Mem) : run (cF_truce) (fun _ _ _ _ => none) rtI 400 (seek (cF_truce) 0) [aR (0, 0, 0), aI x1, aI x2, aI x3, aI x4, aU] [] M = mF_truce x1 x2 x3 x4 M := id rfl
theorem lF_truce {E : EV} {l : Launch} {p : Program} {e : Env} {s : State} {m : MethodId} {args : Array Value} {below : List Frame} {meth : Method} {c : Code} (A : AllOK E l 4 "FreeLances" prog_1_method_23_code 6 (some .int) outI (cF_truce)) (C : Cx E p s m args meth c "FreeLances" prog_1_method_23_code 6 (some .int)) : ∀ (x1 : Int32) (x2 : Int32) (x3 : Int32) (x4 : Int32) (M : Mem) (res : (Int32 × Mem)), mF_truce x1 x2 x3 x4 M = some res → Wm E p l e 4 s m args below meth c 6 0 [aR (0, 0, 0), aI x1, aI x2, aI x3, aI x4, aU] [] M (outI res).1 (outI res).2 := by
  intro x1 x2 x3 x4 M res h
  refine run_at C A rfl hrtI (n := 400) ((eF_truce x1 x2 x3 x4 M).trans h) ?_
  intro t als st M hk; cases hk
def dF_truce {β : Type} : Den β := fun as M k => match as with
  | [.inr (.inr (.inl (al0, bl0, cl0))), .inl x1, .inl x2, .inl x3, .inl x4] => if al0 = 0 ∧ bl0 = 0 ∧ cl0 = 0 then (mF_truce x1 x2 x3 x4 M).bind fun q => k (aI q.1) q.2 else none
  | _ => none
theorem wF_truce {E : EV} (hsd : E.2.2.2 = 0) (l : Launch) (x1 : Int32) (x2 : Int32) (x3 : Int32) (x4 : Int32) (M : Mem) (q : (Int32 × Mem)) (hq : mF_truce x1 x2 x3 x4 M = some q) : Con E l 4 yF_truce prog_1_method_23_code 6 (some .int) [aR (0, 0, 0), aI x1, aI x2, aI x3, aI x4] M (outI q).1 (outI q).2 := by
  refine con_of iF_truce (Nat.le_of_ble_eq_true rfl) ?_
  intro p e s m args below meth c C
  exact lF_truce (oF_truce hsd l) C x1 x2 x3 x4 M _ hq
theorem kF_truce {E : EV} (hsd : E.2.2.2 = 0) (l : Launch) {β : Type} : DenOK E l 4 yF_truce prog_1_method_23_code 6 (some .int) true (dF_truce (β := β)) := by
  intro as M k res h
  unfold dF_truce at h
  split at h
  ·
    split at h
    · rename_i hc
      obtain ⟨rfl, rfl, rfl⟩ := hc
      obtain ⟨q, hq, hk⟩ := Option.bind_eq_some_iff.mp h
      exact ⟨aI q.1, q.2, hk, rfl, wF_truce hsd l _ _ _ _ M q hq⟩
    · cases h
  · cases h
theorem qF_truce {β : Type} : RecOK 0 (dF_truce (β := β)) := by
  intro as M k res h
  unfold dF_truce at h
  split at h
  ·
    split at h
    · rename_i hc
      obtain ⟨rfl, rfl, rfl⟩ := hc
      exact ⟨_, _, _, rfl⟩
    · cases h
  · cases h
/-! ===== FreeLances.safe(IIIII)I ===== -/
abbrev yF_safe : MethodName := ⟨"FreeLances", "safe", "(IIIII)I"⟩
theorem iF_safe : MI yF_safe prog_1_method_24_code 7 (some .int) 5 := ⟨tw844, tw97, ⟨by decide, by decide⟩, by decide +kernel, by decide, by decide⟩
def cF_safe : List (Ent (Int32 × Mem)) := [(false, 0, 1, sLdA 0),
  (false, 1, 1, sLdI 1),
  (false, 2, 3, sInv 2 true dF_isCompany),
  (false, 5, 3, sIfEq 37),
  (false, 8, 1, sLdA 0),
  (false, 9, 1, sLdI 2),
  (false, 10, 3, sInv 2 true dF_isTown),
  (false, 13, 3, sIfEq 37),
  (false, 16, 1, sLdI 3),
  (false, 17, 2, sLdI 4),
  (false, 19, 3, sInv 2 true dF_areDays),
  (false, 22, 3, sIfEq 37),
  (false, 25, 2, sLdI 5),
  (false, 27, 1, sC 0),
  (false, 28, 3, sC 9999),
  (false, 31, 3, sInv 3 true dF_within),
  (false, 34, 3, sIfNe 43),
  (false, 37, 1, sLdA 0),
  (false, 38, 1, sC 1),
  (false, 39, 3, sInv 2 true dF_finding),
  (false, 42, 1, sRetI),
  (false, 43, 1, sLdA 0),
  (false, 44, 3, sGet 0 (fun w i M => aR (1, 0, 0))),
  (false, 47, 3, sGet 1 (fun w i M => aR (2, w, 0))),
  (false, 50, 1, sLdI 2),
  (false, 51, 1, sAald 2 8 3),
  (false, 52, 3, sGet 3 (fun w i M => aI (M 3 w i 0))),
  (false, 55, 2, sLdI 5),
  (false, 57, 3, sCmpGe 66),
  (false, 60, 1, sLdA 0),
  (false, 61, 1, sC 2),
  (false, 62, 3, sInv 2 true dF_finding),
  (false, 65, 1, sRetI),
  (false, 66, 1, sLdA 0),
  (false, 67, 3, sGet 0 (fun w i M => aR (1, 0, 0))),
  (false, 70, 3, sInv 1 true dW_bondsFull),
  (false, 73, 3, sIfEq 82),
  (false, 76, 1, sLdA 0),
  (false, 77, 1, sC 4),
  (false, 78, 3, sInv 2 true dF_finding),
  (false, 81, 1, sRetI),
  (false, 82, 1, sLdA 0),
  (false, 83, 3, sGet 0 (fun w i M => aR (1, 0, 0))),
  (false, 86, 1, sLdI 2),
  (false, 87, 1, sLdI 1),
  (false, 88, 2, sLdI 5),
  (false, 90, 3, sInv 4 false dW_coinToCompany),
  (false, 93, 1, sLdA 0),
  (false, 94, 2, sC 6),
  (false, 96, 1, sLdI 1),
  (false, 97, 2, sLdI 5),
  (false, 99, 3, sInv 4 true dF_newBond),
  (false, 102, 2, sStA 6),
  (false, 104, 2, sLdA 6),
  (false, 106, 1, sLdI 3),
  (false, 107, 3, sPut 15 2),
  (false, 110, 2, sLdA 6),
  (false, 112, 2, sLdI 4),
  (false, 114, 3, sPut 15 3),
  (false, 117, 2, sLdA 6),
  (false, 119, 1, sLdI 2),
  (false, 120, 3, sPut 15 5),
  (false, 123, 1, sLdA 0),
  (false, 124, 3, sGet 0 (fun w i M => aR (1, 0, 0))),
  (false, 127, 1, sDup),
  (false, 128, 3, sGet 1 (fun w i M => aI (M 1 w i 12))),
  (false, 131, 1, sDupX1),
  (false, 132, 1, sC 1),
  (false, 133, 1, sBin (fun x y => x + y)),
  (false, 134, 3, sPut 1 12),
  (false, 137, 1, sRetI)]
theorem oF_safe {E : EV} (hsd : E.2.2.2 = 0) (l : Launch) : AllOK E l 4 "FreeLances" prog_1_method_24_code 7 (some .int) outI (cF_safe) := by
  refine ak (ok_aload_n (k := 0) rfl (by decide +kernel)) ?_
  refine ak (ok_iload_n (k := 1) rfl (by decide +kernel)) ?_
  refine ak (ok_invV (r := 0) (kF_isCompany hsd l) qF_isCompany ck10 kd0 iF_isCompany tw620 tw2 (by decide) tw618 (by decide +kernel)) ?_
  refine ak (ok_if_eq (off := 32) (by decide) (by decide +kernel)) ?_
  refine ak (ok_aload_n (k := 0) rfl (by decide +kernel)) ?_
  refine ak (ok_iload_n (k := 2) rfl (by decide +kernel)) ?_
  refine ak (ok_invV (r := 0) (kF_isTown hsd l) qF_isTown ck10 kd0 iF_isTown tw570 tw1 (by decide) tw568 (by decide +kernel)) ?_
  refine ak (ok_if_eq (off := 24) (by decide) (by decide +kernel)) ?_
  refine ak (ok_iload_n (k := 3) rfl (by decide +kernel)) ?_
  refine ak (ok_iload (by decide +kernel)) ?_
  refine ak (ok_invS (kF_areDays hsd l) iF_areDays tw806 (by decide) tw805 (by decide +kernel)) ?_
  refine ak (ok_if_eq (off := 15) (by decide) (by decide +kernel)) ?_
  refine ak (ok_iload (by decide +kernel)) ?_
  refine ak (ok_iconst (n := 0) (by decide) (by decide +kernel)) ?_
  refine ak (ok_sipush (n := 9999) (by decide) (by decide +kernel)) ?_
  refine ak (ok_invS (kF_within hsd l) iF_within tw553 (by decide) tw552 (by decide +kernel)) ?_
  refine ak (ok_if_ne (off := 9) (by decide) (by decide +kernel)) ?_
  refine ak (ok_aload_n (k := 0) rfl (by decide +kernel)) ?_
  refine ak (ok_iconst (n := 1) (by decide) (by decide +kernel)) ?_
  refine ak (ok_invV (r := 0) (kF_finding hsd l) qF_finding ck10 kd0 iF_finding tw557 tw0 (by decide) tw555 (by decide +kernel)) ?_
  refine ak (ok_ireturn rfl (by decide +kernel)) ?_
  refine ak (ok_aload_n (k := 0) rfl (by decide +kernel)) ?_
  refine ak (ok_get (k := 0) ck10 kd0 (by decide) (fun _ _ _ => rfl) (vf_0_0 hsd) tw522 (by decide +kernel)) ?_
  refine ak (ok_get (k := 1) ck9 kd1 (by decide) (fun _ _ _ => rfl) (vf_1_1 hsd) tw389 (by decide +kernel)) ?_
  refine ak (ok_iload_n (k := 2) rfl (by decide +kernel)) ?_
  refine ak (ok_aald (t0 := 2) (C := RX7) kd2 (by decide) rfl (vr_2 hsd) (by decide +kernel)) ?_
  refine ak (ok_get (k := 0) ck7 kd3 (by decide) (fun _ _ _ => rfl) (fun _ _ _ _ _ => trivial) tw175 (by decide +kernel)) ?_
  refine ak (ok_iload (by decide +kernel)) ?_
  refine ak (ok_icmp_ge (off := 9) (by decide) (by decide +kernel)) ?_
  refine ak (ok_aload_n (k := 0) rfl (by decide +kernel)) ?_
  refine ak (ok_iconst (n := 2) (by decide) (by decide +kernel)) ?_
  refine ak (ok_invV (r := 0) (kF_finding hsd l) qF_finding ck10 kd0 iF_finding tw557 tw0 (by decide) tw555 (by decide +kernel)) ?_
  refine ak (ok_ireturn rfl (by decide +kernel)) ?_
  refine ak (ok_aload_n (k := 0) rfl (by decide +kernel)) ?_
  refine ak (ok_get (k := 0) ck10 kd0 (by decide) (fun _ _ _ => rfl) (vf_0_0 hsd) tw522 (by decide +kernel)) ?_
  refine ak (ok_invV (r := 1) (kW_bondsFull hsd l) qW_bondsFull ck9 kd1 iW_bondsFull tw809 tw810 (by decide) tw808 (by decide +kernel)) ?_
  refine ak (ok_if_eq (off := 9) (by decide) (by decide +kernel)) ?_
  refine ak (ok_aload_n (k := 0) rfl (by decide +kernel)) ?_
  refine ak (ok_iconst (n := 4) (by decide) (by decide +kernel)) ?_
  refine ak (ok_invV (r := 0) (kF_finding hsd l) qF_finding ck10 kd0 iF_finding tw557 tw0 (by decide) tw555 (by decide +kernel)) ?_
  refine ak (ok_ireturn rfl (by decide +kernel)) ?_
  refine ak (ok_aload_n (k := 0) rfl (by decide +kernel)) ?_
  refine ak (ok_get (k := 0) ck10 kd0 (by decide) (fun _ _ _ => rfl) (vf_0_0 hsd) tw522 (by decide +kernel)) ?_
  refine ak (ok_iload_n (k := 2) rfl (by decide +kernel)) ?_
  refine ak (ok_iload_n (k := 1) rfl (by decide +kernel)) ?_
  refine ak (ok_iload (by decide +kernel)) ?_
  refine ak (ok_invV (r := 1) (kW_coinToCompany hsd l) qW_coinToCompany ck9 kd1 iW_coinToCompany tw834 tw835 (by decide) tw833 (by decide +kernel)) ?_
  refine ak (ok_aload_n (k := 0) rfl (by decide +kernel)) ?_
  refine ak (ok_bipush (n := 6) (by decide) (by decide +kernel)) ?_
  refine ak (ok_iload_n (k := 1) rfl (by decide +kernel)) ?_
  refine ak (ok_iload (by decide +kernel)) ?_
  refine ak (ok_invV (r := 0) (kF_newBond hsd l) qF_newBond ck10 kd0 iF_newBond tw814 tw17 (by decide) tw812 (by decide +kernel)) ?_
  refine ak (ok_astore (by decide) (by decide +kernel)) ?_
  refine ak (ok_aload (by decide +kernel)) ?_
  refine ak (ok_iload_n (k := 3) rfl (by decide +kernel)) ?_
  refine ak (ok_put (k := 2) ck0 kd15 (by decide) (fun _ _ _ => rfl) rfl rfl (by decide) tw331 (by decide +kernel)) ?_
  refine ak (ok_aload (by decide +kernel)) ?_
  refine ak (ok_iload (by decide +kernel)) ?_
  refine ak (ok_put (k := 3) ck0 kd15 (by decide) (fun _ _ _ => rfl) rfl rfl (by decide) tw334 (by decide +kernel)) ?_
  refine ak (ok_aload (by decide +kernel)) ?_
  refine ak (ok_iload_n (k := 2) rfl (by decide +kernel)) ?_
  refine ak (ok_put (k := 5) ck0 kd15 (by decide) (fun _ _ _ => rfl) rfl rfl (by decide) tw341 (by decide +kernel)) ?_
  refine ak (ok_aload_n (k := 0) rfl (by decide +kernel)) ?_
  refine ak (ok_get (k := 0) ck10 kd0 (by decide) (fun _ _ _ => rfl) (vf_0_0 hsd) tw522 (by decide +kernel)) ?_
  refine ak (ok_dup (by decide +kernel)) ?_
  refine ak (ok_get (k := 12) ck9 kd1 (by decide) (fun _ _ _ => rfl) (fun _ _ _ _ _ => trivial) tw413 (by decide +kernel)) ?_
  refine ak (ok_dup_x1 (by decide +kernel)) ?_
  refine ak (ok_iconst (n := 1) (by decide) (by decide +kernel)) ?_
  refine ak (ok_iadd (by decide +kernel)) ?_
  refine ak (ok_put (k := 12) ck9 kd1 (by decide) (fun _ _ _ => rfl) rfl rfl (by decide) tw413 (by decide +kernel)) ?_
  refine ak (ok_ireturn rfl (by decide +kernel)) ?_
  exact trivial
set_option maxRecDepth 1000000 in
theorem eF_safe (x1 : Int32) (x2 : Int32) (x3 : Int32) (x4 : Int32) (x5 : Int32) (M : Mem) : run (cF_safe) (fun _ _ _ _ => none) rtI 400 (seek (cF_safe) 0) [aR (0, 0, 0), aI x1, aI x2, aI x3, aI x4, aI x5, aU] [] M = mF_safe x1 x2 x3 x4 x5 M := id rfl
theorem lF_safe {E : EV} {l : Launch} {p : Program} {e : Env} {s : State} {m : MethodId} {args : Array Value} {below : List Frame} {meth : Method} {c : Code} (A : AllOK E l 4 "FreeLances" prog_1_method_24_code 7 (some .int) outI (cF_safe)) (C : Cx E p s m args meth c "FreeLances" prog_1_method_24_code 7 (some .int)) : ∀ (x1 : Int32) (x2 : Int32) (x3 : Int32) (x4 : Int32) (x5 : Int32) (M : Mem) (res : (Int32 × Mem)), mF_safe x1 x2 x3 x4 x5 M = some res → Wm E p l e 4 s m args below meth c 7 0 [aR (0, 0, 0), aI x1, aI x2, aI x3, aI x4, aI x5, aU] [] M (outI res).1 (outI res).2 := by
  intro x1 x2 x3 x4 x5 M res h
  refine run_at C A rfl hrtI (n := 400) ((eF_safe x1 x2 x3 x4 x5 M).trans h) ?_
  intro t als st M hk; cases hk
def dF_safe {β : Type} : Den β := fun as M k => match as with
  | [.inr (.inr (.inl (al0, bl0, cl0))), .inl x1, .inl x2, .inl x3, .inl x4, .inl x5] => if al0 = 0 ∧ bl0 = 0 ∧ cl0 = 0 then (mF_safe x1 x2 x3 x4 x5 M).bind fun q => k (aI q.1) q.2 else none
  | _ => none
theorem wF_safe {E : EV} (hsd : E.2.2.2 = 0) (l : Launch) (x1 : Int32) (x2 : Int32) (x3 : Int32) (x4 : Int32) (x5 : Int32) (M : Mem) (q : (Int32 × Mem)) (hq : mF_safe x1 x2 x3 x4 x5 M = some q) : Con E l 4 yF_safe prog_1_method_24_code 7 (some .int) [aR (0, 0, 0), aI x1, aI x2, aI x3, aI x4, aI x5] M (outI q).1 (outI q).2 := by
  refine con_of iF_safe (Nat.le_of_ble_eq_true rfl) ?_
  intro p e s m args below meth c C
  exact lF_safe (oF_safe hsd l) C x1 x2 x3 x4 x5 M _ hq
theorem kF_safe {E : EV} (hsd : E.2.2.2 = 0) (l : Launch) {β : Type} : DenOK E l 4 yF_safe prog_1_method_24_code 7 (some .int) true (dF_safe (β := β)) := by
  intro as M k res h
  unfold dF_safe at h
  split at h
  ·
    split at h
    · rename_i hc
      obtain ⟨rfl, rfl, rfl⟩ := hc
      obtain ⟨q, hq, hk⟩ := Option.bind_eq_some_iff.mp h
      exact ⟨aI q.1, q.2, hk, rfl, wF_safe hsd l _ _ _ _ _ M q hq⟩
    · cases h
  · cases h
theorem qF_safe {β : Type} : RecOK 0 (dF_safe (β := β)) := by
  intro as M k res h
  unfold dF_safe at h
  split at h
  ·
    split at h
    · rename_i hc
      obtain ⟨rfl, rfl, rfl⟩ := hc
      exact ⟨_, _, _, rfl⟩
    · cases h
  · cases h
/-! ===== FreeLances.ransom(II)I ===== -/
abbrev yF_ransom : MethodName := ⟨"FreeLances", "ransom", "(II)I"⟩
theorem iF_ransom : MI yF_ransom prog_1_method_25_code 5 (some .int) 2 := ⟨tw848, tw97, ⟨by decide, by decide⟩, by decide +kernel, by decide, by decide⟩
def cF_ransom : List (Ent (Int32 × Mem)) := [(false, 0, 1, sLdA 0),
  (false, 1, 1, sLdI 1),
  (false, 2, 3, sInv 2 true dF_isLance),
  (false, 5, 3, sIfEq 19),
  (false, 8, 1, sLdI 2),
  (false, 9, 1, sC 0),
  (false, 10, 3, sC 9999),
  (false, 13, 3, sInv 3 true dF_within),
  (false, 16, 3, sIfNe 25),
  (false, 19, 1, sLdA 0),
  (false, 20, 1, sC 1),
  (false, 21, 3, sInv 2 true dF_finding),
  (false, 24, 1, sRetI),
  (false, 25, 1, sLdA 0),
  (false, 26, 3, sGet 0 (fun w i M => aR (1, 0, 0))),
  (false, 29, 3, sGet 1 (fun w i M => aR (9, w, 0))),
  (false, 32, 1, sLdI 1),
  (false, 33, 1, sAald 9 40 10),
  (false, 34, 1, sStA 3),
  (false, 35, 1, sLdA 3),
  (false, 36, 3, sGet 10 (fun w i M => aI (M 10 w i 4))),
  (false, 39, 3, sIfGe 48),
  (false, 42, 1, sLdA 0),
  (false, 43, 1, sC 3),
  (false, 44, 3, sInv 2 true dF_finding),
  (false, 47, 1, sRetI),
  (false, 48, 1, sLdA 0),
  (false, 49, 3, sGet 0 (fun w i M => aR (1, 0, 0))),
  (false, 52, 3, sGet 1 (fun w i M => aR (5, w, 0))),
  (false, 55, 1, sLdA 3),
  (false, 56, 3, sGet 10 (fun w i M => aI (M 10 w i 0))),
  (false, 59, 1, sAald 5 5 6),
  (false, 60, 3, sGet 6 (fun w i M => aI (M 6 w i 0))),
  (false, 63, 1, sLdI 2),
  (false, 64, 3, sCmpGe 73),
  (false, 67, 1, sLdA 0),
  (false, 68, 1, sC 2),
  (false, 69, 3, sInv 2 true dF_finding),
  (false, 72, 1, sRetI),
  (false, 73, 1, sLdA 0),
  (false, 74, 3, sGet 0 (fun w i M => aR (1, 0, 0))),
  (false, 77, 3, sInv 1 true dW_bondsFull),
  (false, 80, 3, sIfEq 89),
  (false, 83, 1, sLdA 0),
  (false, 84, 1, sC 4),
  (false, 85, 3, sInv 2 true dF_finding),
  (false, 88, 1, sRetI),
  (false, 89, 1, sLdA 0),
  (false, 90, 3, sGet 0 (fun w i M => aR (1, 0, 0))),
  (false, 93, 1, sLdA 3),
  (false, 94, 3, sGet 10 (fun w i M => aI (M 10 w i 4))),
  (false, 97, 1, sLdA 3),
  (false, 98, 3, sGet 10 (fun w i M => aI (M 10 w i 0))),
  (false, 101, 1, sLdI 2),
  (false, 102, 1, sUn (fun x => -x)),
  (false, 103, 3, sInv 4 false dW_coinToCompany),
  (false, 106, 1, sLdA 0),
  (false, 107, 1, sC 5),
  (false, 108, 1, sLdA 3),
  (false, 109, 3, sGet 10 (fun w i M => aI (M 10 w i 0))),
  (false, 112, 1, sLdI 2),
  (false, 113, 3, sInv 4 true dF_newBond),
  (false, 116, 2, sStA 4),
  (false, 118, 2, sLdA 4),
  (false, 120, 1, sLdA 3),
  (false, 121, 3, sGet 10 (fun w i M => aI (M 10 w i 4))),
  (false, 124, 3, sPut 15 5),
  (false, 127, 2, sLdA 4),
  (false, 129, 1, sLdI 1),
  (false, 130, 3, sPut 15 7),
  (false, 133, 1, sLdA 3),
  (false, 134, 1, sC (-1)),
  (false, 135, 3, sPut 10 4),
  (false, 138, 1, sLdA 0),
  (false, 139, 3, sGet 0 (fun w i M => aR (1, 0, 0))),
  (false, 142, 1, sLdA 3),
  (false, 143, 1, sC 0),
  (false, 144, 3, sInv 3 false dW_become),
  (false, 147, 1, sLdA 0),
  (false, 148, 3, sGet 0 (fun w i M => aR (1, 0, 0))),
  (false, 151, 1, sDup),
  (false, 152, 3, sGet 1 (fun w i M => aI (M 1 w i 12))),
  (false, 155, 1, sDupX1),
  (false, 156, 1, sC 1),
  (false, 157, 1, sBin (fun x y => x + y)),
  (false, 158, 3, sPut 1 12),
  (false, 161, 1, sRetI)]
theorem oF_ransom {E : EV} (hsd : E.2.2.2 = 0) (l : Launch) : AllOK E l 3 "FreeLances" prog_1_method_25_code 5 (some .int) outI (cF_ransom) := by
  refine ak (ok_aload_n (k := 0) rfl (by decide +kernel)) ?_
  refine ak (ok_iload_n (k := 1) rfl (by decide +kernel)) ?_
  refine ak (ok_invV (r := 0) (kF_isLance hsd l) qF_isLance ck10 kd0 iF_isLance tw667 tw3 (by decide) tw665 (by decide +kernel)) ?_
  refine ak (ok_if_eq (off := 14) (by decide) (by decide +kernel)) ?_
  refine ak (ok_iload_n (k := 2) rfl (by decide +kernel)) ?_
  refine ak (ok_iconst (n := 0) (by decide) (by decide +kernel)) ?_
  refine ak (ok_sipush (n := 9999) (by decide) (by decide +kernel)) ?_
  refine ak (ok_invS (kF_within hsd l) iF_within tw553 (by decide) tw552 (by decide +kernel)) ?_
  refine ak (ok_if_ne (off := 9) (by decide) (by decide +kernel)) ?_
  refine ak (ok_aload_n (k := 0) rfl (by decide +kernel)) ?_
  refine ak (ok_iconst (n := 1) (by decide) (by decide +kernel)) ?_
  refine ak (ok_invV (r := 0) (kF_finding hsd l) qF_finding ck10 kd0 iF_finding tw557 tw0 (by decide) tw555 (by decide +kernel)) ?_
  refine ak (ok_ireturn rfl (by decide +kernel)) ?_
  refine ak (ok_aload_n (k := 0) rfl (by decide +kernel)) ?_
  refine ak (ok_get (k := 0) ck10 kd0 (by decide) (fun _ _ _ => rfl) (vf_0_0 hsd) tw522 (by decide +kernel)) ?_
  refine ak (ok_get (k := 7) ck9 kd1 (by decide) (fun _ _ _ => rfl) (vf_1_7 hsd) tw403 (by decide +kernel)) ?_
  refine ak (ok_iload_n (k := 1) rfl (by decide +kernel)) ?_
  refine ak (ok_aald (t0 := 4) (C := RX2) kd9 (by decide) rfl (vr_9 hsd) (by decide +kernel)) ?_
  refine ak (ok_astore_n (k := 3) rfl (by decide) (by decide +kernel)) ?_
  refine ak (ok_aload_n (k := 3) rfl (by decide +kernel)) ?_
  refine ak (ok_get (k := 4) ck2 kd10 (by decide) (fun _ _ _ => rfl) (fun _ _ _ _ _ => trivial) tw284 (by decide +kernel)) ?_
  refine ak (ok_if_ge (off := 9) (by decide) (by decide +kernel)) ?_
  refine ak (ok_aload_n (k := 0) rfl (by decide +kernel)) ?_
  refine ak (ok_iconst (n := 3) (by decide) (by decide +kernel)) ?_
  refine ak (ok_invV (r := 0) (kF_finding hsd l) qF_finding ck10 kd0 iF_finding tw557 tw0 (by decide) tw555 (by decide +kernel)) ?_
  refine ak (ok_ireturn rfl (by decide +kernel)) ?_
  refine ak (ok_aload_n (k := 0) rfl (by decide +kernel)) ?_
  refine ak (ok_get (k := 0) ck10 kd0 (by decide) (fun _ _ _ => rfl) (vf_0_0 hsd) tw522 (by decide +kernel)) ?_
  refine ak (ok_get (k := 5) ck9 kd1 (by decide) (fun _ _ _ => rfl) (vf_1_5 hsd) tw398 (by decide +kernel)) ?_
  refine ak (ok_aload_n (k := 3) rfl (by decide +kernel)) ?_
  refine ak (ok_get (k := 0) ck2 kd10 (by decide) (fun _ _ _ => rfl) (fun _ _ _ _ _ => trivial) tw273 (by decide +kernel)) ?_
  refine ak (ok_aald (t0 := 3) (C := RX1) kd5 (by decide) rfl (vr_5 hsd) (by decide +kernel)) ?_
  refine ak (ok_get (k := 0) ck1 kd6 (by decide) (fun _ _ _ => rfl) (fun _ _ _ _ _ => trivial) tw200 (by decide +kernel)) ?_
  refine ak (ok_iload_n (k := 2) rfl (by decide +kernel)) ?_
  refine ak (ok_icmp_ge (off := 9) (by decide) (by decide +kernel)) ?_
  refine ak (ok_aload_n (k := 0) rfl (by decide +kernel)) ?_
  refine ak (ok_iconst (n := 2) (by decide) (by decide +kernel)) ?_
  refine ak (ok_invV (r := 0) (kF_finding hsd l) qF_finding ck10 kd0 iF_finding tw557 tw0 (by decide) tw555 (by decide +kernel)) ?_
  refine ak (ok_ireturn rfl (by decide +kernel)) ?_
  refine ak (ok_aload_n (k := 0) rfl (by decide +kernel)) ?_
  refine ak (ok_get (k := 0) ck10 kd0 (by decide) (fun _ _ _ => rfl) (vf_0_0 hsd) tw522 (by decide +kernel)) ?_
  refine ak (ok_invV (r := 1) (kW_bondsFull hsd l) qW_bondsFull ck9 kd1 iW_bondsFull tw809 tw810 (by decide) tw808 (by decide +kernel)) ?_
  refine ak (ok_if_eq (off := 9) (by decide) (by decide +kernel)) ?_
  refine ak (ok_aload_n (k := 0) rfl (by decide +kernel)) ?_
  refine ak (ok_iconst (n := 4) (by decide) (by decide +kernel)) ?_
  refine ak (ok_invV (r := 0) (kF_finding hsd l) qF_finding ck10 kd0 iF_finding tw557 tw0 (by decide) tw555 (by decide +kernel)) ?_
  refine ak (ok_ireturn rfl (by decide +kernel)) ?_
  refine ak (ok_aload_n (k := 0) rfl (by decide +kernel)) ?_
  refine ak (ok_get (k := 0) ck10 kd0 (by decide) (fun _ _ _ => rfl) (vf_0_0 hsd) tw522 (by decide +kernel)) ?_
  refine ak (ok_aload_n (k := 3) rfl (by decide +kernel)) ?_
  refine ak (ok_get (k := 4) ck2 kd10 (by decide) (fun _ _ _ => rfl) (fun _ _ _ _ _ => trivial) tw284 (by decide +kernel)) ?_
  refine ak (ok_aload_n (k := 3) rfl (by decide +kernel)) ?_
  refine ak (ok_get (k := 0) ck2 kd10 (by decide) (fun _ _ _ => rfl) (fun _ _ _ _ _ => trivial) tw273 (by decide +kernel)) ?_
  refine ak (ok_iload_n (k := 2) rfl (by decide +kernel)) ?_
  refine ak (ok_ineg (by decide +kernel)) ?_
  refine ak (ok_invV (r := 1) (kW_coinToCompany hsd l) qW_coinToCompany ck9 kd1 iW_coinToCompany tw834 tw835 (by decide) tw833 (by decide +kernel)) ?_
  refine ak (ok_aload_n (k := 0) rfl (by decide +kernel)) ?_
  refine ak (ok_iconst (n := 5) (by decide) (by decide +kernel)) ?_
  refine ak (ok_aload_n (k := 3) rfl (by decide +kernel)) ?_
  refine ak (ok_get (k := 0) ck2 kd10 (by decide) (fun _ _ _ => rfl) (fun _ _ _ _ _ => trivial) tw273 (by decide +kernel)) ?_
  refine ak (ok_iload_n (k := 2) rfl (by decide +kernel)) ?_
  refine ak (ok_invV (r := 0) (kF_newBond hsd l) qF_newBond ck10 kd0 iF_newBond tw814 tw17 (by decide) tw812 (by decide +kernel)) ?_
  refine ak (ok_astore (by decide) (by decide +kernel)) ?_
  refine ak (ok_aload (by decide +kernel)) ?_
  refine ak (ok_aload_n (k := 3) rfl (by decide +kernel)) ?_
  refine ak (ok_get (k := 4) ck2 kd10 (by decide) (fun _ _ _ => rfl) (fun _ _ _ _ _ => trivial) tw284 (by decide +kernel)) ?_
  refine ak (ok_put (k := 5) ck0 kd15 (by decide) (fun _ _ _ => rfl) rfl rfl (by decide) tw341 (by decide +kernel)) ?_
  refine ak (ok_aload (by decide +kernel)) ?_
  refine ak (ok_iload_n (k := 1) rfl (by decide +kernel)) ?_
  refine ak (ok_put (k := 7) ck0 kd15 (by decide) (fun _ _ _ => rfl) rfl rfl (by decide) tw346 (by decide +kernel)) ?_
  refine ak (ok_aload_n (k := 3) rfl (by decide +kernel)) ?_
  refine ak (ok_iconst (n := (-1)) (by decide) (by decide +kernel)) ?_
  refine ak (ok_put (k := 4) ck2 kd10 (by decide) (fun _ _ _ => rfl) rfl rfl (by decide) tw284 (by decide +kernel)) ?_
  refine ak (ok_aload_n (k := 0) rfl (by decide +kernel)) ?_
  refine ak (ok_get (k := 0) ck10 kd0 (by decide) (fun _ _ _ => rfl) (vf_0_0 hsd) tw522 (by decide +kernel)) ?_
  refine ak (ok_aload_n (k := 3) rfl (by decide +kernel)) ?_
  refine ak (ok_iconst (n := 0) (by decide) (by decide +kernel)) ?_
  refine ak (ok_invV (r := 1) (kW_become hsd l) qW_become ck9 kd1 iW_become tw761 tw762 (by decide) tw760 (by decide +kernel)) ?_
  refine ak (ok_aload_n (k := 0) rfl (by decide +kernel)) ?_
  refine ak (ok_get (k := 0) ck10 kd0 (by decide) (fun _ _ _ => rfl) (vf_0_0 hsd) tw522 (by decide +kernel)) ?_
  refine ak (ok_dup (by decide +kernel)) ?_
  refine ak (ok_get (k := 12) ck9 kd1 (by decide) (fun _ _ _ => rfl) (fun _ _ _ _ _ => trivial) tw413 (by decide +kernel)) ?_
  refine ak (ok_dup_x1 (by decide +kernel)) ?_
  refine ak (ok_iconst (n := 1) (by decide) (by decide +kernel)) ?_
  refine ak (ok_iadd (by decide +kernel)) ?_
  refine ak (ok_put (k := 12) ck9 kd1 (by decide) (fun _ _ _ => rfl) rfl rfl (by decide) tw413 (by decide +kernel)) ?_
  refine ak (ok_ireturn rfl (by decide +kernel)) ?_
  exact trivial
set_option maxRecDepth 1000000 in
theorem eF_ransom (x1 : Int32) (x2 : Int32) (M : Mem) : run (cF_ransom) (fun _ _ _ _ => none) rtI 400 (seek (cF_ransom) 0) [aR (0, 0, 0), aI x1, aI x2, aU, aU] [] M = mF_ransom x1 x2 M := id rfl
theorem lF_ransom {E : EV} {l : Launch} {p : Program} {e : Env} {s : State} {m : MethodId} {args : Array Value} {below : List Frame} {meth : Method} {c : Code} (A : AllOK E l 3 "FreeLances" prog_1_method_25_code 5 (some .int) outI (cF_ransom)) (C : Cx E p s m args meth c "FreeLances" prog_1_method_25_code 5 (some .int)) : ∀ (x1 : Int32) (x2 : Int32) (M : Mem) (res : (Int32 × Mem)), mF_ransom x1 x2 M = some res → Wm E p l e 3 s m args below meth c 5 0 [aR (0, 0, 0), aI x1, aI x2, aU, aU] [] M (outI res).1 (outI res).2 := by
  intro x1 x2 M res h
  refine run_at C A rfl hrtI (n := 400) ((eF_ransom x1 x2 M).trans h) ?_
  intro t als st M hk; cases hk
def dF_ransom {β : Type} : Den β := fun as M k => match as with
  | [.inr (.inr (.inl (al0, bl0, cl0))), .inl x1, .inl x2] => if al0 = 0 ∧ bl0 = 0 ∧ cl0 = 0 then (mF_ransom x1 x2 M).bind fun q => k (aI q.1) q.2 else none
  | _ => none
theorem wF_ransom {E : EV} (hsd : E.2.2.2 = 0) (l : Launch) (x1 : Int32) (x2 : Int32) (M : Mem) (q : (Int32 × Mem)) (hq : mF_ransom x1 x2 M = some q) : Con E l 3 yF_ransom prog_1_method_25_code 5 (some .int) [aR (0, 0, 0), aI x1, aI x2] M (outI q).1 (outI q).2 := by
  refine con_of iF_ransom (Nat.le_of_ble_eq_true rfl) ?_
  intro p e s m args below meth c C
  exact lF_ransom (oF_ransom hsd l) C x1 x2 M _ hq
theorem kF_ransom {E : EV} (hsd : E.2.2.2 = 0) (l : Launch) {β : Type} : DenOK E l 3 yF_ransom prog_1_method_25_code 5 (some .int) true (dF_ransom (β := β)) := by
  intro as M k res h
  unfold dF_ransom at h
  split at h
  ·
    split at h
    · rename_i hc
      obtain ⟨rfl, rfl, rfl⟩ := hc
      obtain ⟨q, hq, hk⟩ := Option.bind_eq_some_iff.mp h
      exact ⟨aI q.1, q.2, hk, rfl, wF_ransom hsd l _ _ M q hq⟩
    · cases h
  · cases h
theorem qF_ransom {β : Type} : RecOK 0 (dF_ransom (β := β)) := by
  intro as M k res h
  unfold dF_ransom at h
  split at h
  ·
    split at h
    · rename_i hc
      obtain ⟨rfl, rfl, rfl⟩ := hc
      exact ⟨_, _, _, rfl⟩
    · cases h
  · cases h
/-! ===== FreeLances$Bond.isOf(I)Z ===== -/
abbrev yB_isOf : MethodName := ⟨"FreeLances$Bond", "isOf", "(I)Z"⟩
theorem iB_isOf : MI yB_isOf prog_2_method_4_code 4 (some .boolean) 1 := ⟨tw856, tw104, ⟨by decide, by decide⟩, by decide +kernel, by decide, by decide⟩
def cB_isOf : List (Ent (Int32 × Mem)) := [(false, 0, 1, sLdA 0),
  (false, 1, 3, sGet 15 (fun w i M => aI (M 15 w i 0))),
  (false, 4, 1, sStI 2),
  (false, 5, 1, sC 0),
  (false, 6, 1, sStI 3),
  (true, 7, 1, sLdI 3),
  (false, 8, 1, sC 3),
  (false, 9, 3, sCmpGe 35),
  (false, 12, 1, sLdI 2),
  (false, 13, 3, sIfLt 35),
  (false, 16, 1, sLdI 2),
  (false, 17, 1, sLdI 1),
  (false, 18, 3, sCmpNe 23),
  (false, 21, 1, sC 1),
  (false, 22, 1, sRetZ),
  (false, 23, 3, sGs (27, 0, 0)),
  (false, 26, 1, sLdI 2),
  (false, 27, 1, sTald 27 7 tabA),
  (false, 28, 1, sStI 2),
  (false, 29, 3, sInc 3 1),
  (false, 32, 3, sGoto 7),
  (false, 35, 1, sC 0),
  (false, 36, 1, sRetZ)]
theorem oB_isOf {E : EV} (hsd : E.2.2.2 = 0) (l : Launch) : AllOK E l 1 "FreeLances$Bond" prog_2_method_4_code 4 (some .boolean) outI (cB_isOf) := by
  refine ak (ok_aload_n (k := 0) rfl (by decide +kernel)) ?_
  refine ak (ok_get (k := 0) ck0 kd15 (by decide) (fun _ _ _ => rfl) (fun _ _ _ _ _ => trivial) tw324 (by decide +kernel)) ?_
  refine ak (ok_istore_n (k := 2) rfl (by decide) (by decide +kernel)) ?_
  refine ak (ok_iconst (n := 0) (by decide) (by decide +kernel)) ?_
  refine ak (ok_istore_n (k := 3) rfl (by decide) (by decide +kernel)) ?_
  refine ak (ok_iload_n (k := 3) rfl (by decide +kernel)) ?_
  refine ak (ok_iconst (n := 3) (by decide) (by decide +kernel)) ?_
  refine ak (ok_icmp_ge (off := 26) (by decide) (by decide +kernel)) ?_
  refine ak (ok_iload_n (k := 2) rfl (by decide +kernel)) ?_
  refine ak (ok_if_lt (off := 22) (by decide) (by decide +kernel)) ?_
  refine ak (ok_iload_n (k := 2) rfl (by decide +kernel)) ?_
  refine ak (ok_iload_n (k := 1) rfl (by decide +kernel)) ?_
  refine ak (ok_icmp_ne (off := 5) (by decide) (by decide +kernel)) ?_
  refine ak (ok_iconst (n := 1) (by decide) (by decide +kernel)) ?_
  refine ak (ok_zreturn rfl (by decide +kernel)) ?_
  refine ak (ok_gsAN tw857 (by decide +kernel)) ?_
  refine ak (ok_iload_n (k := 2) rfl (by decide +kernel)) ?_
  refine ak (ok_taldA hsd (by decide +kernel)) ?_
  refine ak (ok_istore_n (k := 2) rfl (by decide) (by decide +kernel)) ?_
  refine ak (ok_iinc (n := 1) (by decide) (by decide) (by decide +kernel)) ?_
  refine ak (ok_goto (off := (-25)) (by decide) (by decide +kernel)) ?_
  refine ak (ok_iconst (n := 0) (by decide) (by decide +kernel)) ?_
  refine ak (ok_zreturn rfl (by decide +kernel)) ?_
  exact trivial
def KB_isOf_7 (j7 : Int32 → Int32 → Int32 → Mem → Option (Int32 × Mem)) : Jm (Int32 × Mem) := fun t als st M =>
  if t = 7 then (match als, st with
  | [_, .inl x1, .inl x2, .inl x3], [] => j7 x1 x2 x3 M
  | _, _ => none) else
  none
set_option maxRecDepth 1000000 in
theorem eB_isOf_7 (j7 : Int32 → Int32 → Int32 → Mem → Option (Int32 × Mem)) (x1 : Int32) (x2 : Int32) (x3 : Int32) (M : Mem) (u0 : AV) : run (cB_isOf) (KB_isOf_7 j7) rtI 400 (seek (cB_isOf) 7) [u0, aI x1, aI x2, aI x3] [] M = mB_isOf_7b j7 x1 x2 x3 M := id rfl
theorem lB_isOf_7 {E : EV} {l : Launch} {p : Program} {e : Env} {s : State} {m : MethodId} {args : Array Value} {below : List Frame} {meth : Method} {c : Code} (A : AllOK E l 1 "FreeLances$Bond" prog_2_method_4_code 4 (some .boolean) outI (cB_isOf)) (C : Cx E p s m args meth c "FreeLances$Bond" prog_2_method_4_code 4 (some .boolean)) : ∀ (n : Nat), ∀ (x1 : Int32) (x2 : Int32) (x3 : Int32) (M : Mem) (res : (Int32 × Mem)), mB_isOf_7 n x1 x2 x3 M = some res → ∀ (u0 : AV), Wm E p l e 1 s m args below meth c 4 7 [u0, aI x1, aI x2, aI x3] [] M (outI res).1 (outI res).2 := by
  intro n
  induction n with
  | zero => intro _ _ _ M res h; cases h
  | succ n ih =>
    intro x1 x2 x3 M res h u0
    refine run_at C A rfl hrtI (n := 400) ((eB_isOf_7 (mB_isOf_7 n) x1 x2 x3 M u0).trans h) ?_
    intro t als st M hk
    unfold KB_isOf_7 at hk
    split at hk
    · rename_i ht
      subst ht
      split at hk
      · exact ih _ _ _ _ _ hk _
      · cases hk
    cases hk
def KB_isOf (j7 : Int32 → Int32 → Int32 → Mem → Option (Int32 × Mem)) : Jm (Int32 × Mem) := fun t als st M =>
  if t = 7 then (match als, st with
  | [_, .inl x1, .inl x2, .inl x3], [] => j7 x1 x2 x3 M
  | _, _ => none) else
  none
set_option maxRecDepth 1000000 in
theorem eB_isOf (j7 : Int32 → Int32 → Int32 → Mem → Option (Int32 × Mem)) (w0 : Nat) (i0 : Nat) (x1 : Int32) (M : Mem) : run (cB_isOf) (KB_isOf j7) rtI 400 (seek (cB_isOf) 0) [aR (15, w0, i0), aI x1, aU, aU] [] M = mB_isOfb j7 w0 i0 x1 M := id rfl
theorem lB_isOf {E : EV} {l : Launch} {p : Program} {e : Env} {s : State} {m : MethodId} {args : Array Value} {below : List Frame} {meth : Method} {c : Code} (A : AllOK E l 1 "FreeLances$Bond" prog_2_method_4_code 4 (some .boolean) outI (cB_isOf)) (C : Cx E p s m args meth c "FreeLances$Bond" prog_2_method_4_code 4 (some .boolean)) : ∀ (w0 : Nat) (i0 : Nat) (x1 : Int32) (M : Mem) (res : (Int32 × Mem)), mB_isOf w0 i0 x1 M = some res → Wm E p l e 1 s m args below meth c 4 0 [aR (15, w0, i0), aI x1, aU, aU] [] M (outI res).1 (outI res).2 := by
  intro w0 i0 x1 M res h
  refine run_at C A rfl hrtI (n := 400) ((eB_isOf (mB_isOf_7 fuel) w0 i0 x1 M).trans h) ?_
  intro t als st M hk
  unfold KB_isOf at hk
  split at hk
  · rename_i ht
    subst ht
    split at hk
    · exact lB_isOf_7 A C _ _ _ _ _ _ hk _
    · cases hk
  cases hk
def dB_isOf {β : Type} : Den β := fun as M k => match as with
  | [.inr (.inr (.inl (al0, w0, i0))), .inl x1] => if al0 = 15 then (mB_isOf w0 i0 x1 M).bind fun q => k (aI q.1) q.2 else none
  | _ => none
theorem wB_isOf {E : EV} (hsd : E.2.2.2 = 0) (l : Launch) (w0 : Nat) (i0 : Nat) (x1 : Int32) (M : Mem) (q : (Int32 × Mem)) (hq : mB_isOf w0 i0 x1 M = some q) : Con E l 1 yB_isOf prog_2_method_4_code 4 (some .boolean) [aR (15, w0, i0), aI x1] M (outI q).1 (outI q).2 := by
  refine con_of iB_isOf (Nat.le_of_ble_eq_true rfl) ?_
  intro p e s m args below meth c C
  exact lB_isOf (oB_isOf hsd l) C w0 i0 x1 M _ hq
theorem kB_isOf {E : EV} (hsd : E.2.2.2 = 0) (l : Launch) {β : Type} : DenOK E l 1 yB_isOf prog_2_method_4_code 4 (some .boolean) true (dB_isOf (β := β)) := by
  intro as M k res h
  unfold dB_isOf at h
  split at h
  ·
    split at h
    · rename_i hc
      obtain rfl := hc
      obtain ⟨q, hq, hk⟩ := Option.bind_eq_some_iff.mp h
      exact ⟨aI q.1, q.2, hk, rfl, wB_isOf hsd l _ _ _ M q hq⟩
    · cases h
  · cases h
theorem qB_isOf {β : Type} : RecOK 15 (dB_isOf (β := β)) := by
  intro as M k res h
  unfold dB_isOf at h
  split at h
  ·
    split at h
    · rename_i hc
      obtain rfl := hc
      exact ⟨_, _, _, rfl⟩
    · cases h
  · cases h
/-! ===== FreeLances.as(II)I ===== -/
abbrev yF_as : MethodName := ⟨"FreeLances", "as", "(II)I"⟩
theorem iF_as : MI yF_as prog_1_method_26_code 4 (some .int) 2 := ⟨tw852, tw97, ⟨by decide, by decide⟩, by decide +kernel, by decide, by decide⟩
def cF_as : List (Ent (Int32 × Mem)) := [(false, 0, 1, sLdA 0),
  (false, 1, 1, sLdI 1),
  (false, 2, 3, sInv 2 true dF_isBond),
  (false, 5, 3, sIfEq 18),
  (false, 8, 1, sLdI 2),
  (false, 9, 1, sC 0),
  (false, 10, 2, sC 6),
  (false, 12, 3, sInv 3 true dF_within),
  (false, 15, 3, sIfNe 24),
  (false, 18, 1, sLdA 0),
  (false, 19, 1, sC 1),
  (false, 20, 3, sInv 2 true dF_finding),
  (false, 23, 1, sRetI),
  (false, 24, 1, sLdA 0),
  (false, 25, 3, sGet 0 (fun w i M => aR (1, 0, 0))),
  (false, 28, 3, sGet 1 (fun w i M => aR (14, w, 0))),
  (false, 31, 1, sLdI 1),
  (false, 32, 1, sAald 14 24 15),
  (false, 33, 1, sStA 3),
  (false, 34, 1, sLdA 3),
  (false, 35, 1, sLdI 2),
  (false, 36, 3, sInv 2 true dB_isOf),
  (false, 39, 3, sIfEq 49),
  (false, 42, 1, sLdA 3),
  (false, 43, 3, sGet 15 (fun w i M => aI (M 15 w i 4))),
  (false, 46, 3, sGoto 54),
  (false, 49, 1, sLdA 0),
  (false, 50, 1, sC 5),
  (false, 51, 3, sInv 2 true dF_finding),
  (false, 54, 1, sRetI)]
theorem oF_as {E : EV} (hsd : E.2.2.2 = 0) (l : Launch) : AllOK E l 3 "FreeLances" prog_1_method_26_code 4 (some .int) outI (cF_as) := by
  refine ak (ok_aload_n (k := 0) rfl (by decide +kernel)) ?_
  refine ak (ok_iload_n (k := 1) rfl (by decide +kernel)) ?_
  refine ak (ok_invV (r := 0) (kF_isBond hsd l) qF_isBond ck10 kd0 iF_isBond tw826 tw18 (by decide) tw824 (by decide +kernel)) ?_
  refine ak (ok_if_eq (off := 13) (by decide) (by decide +kernel)) ?_
  refine ak (ok_iload_n (k := 2) rfl (by decide +kernel)) ?_
  refine ak (ok_iconst (n := 0) (by decide) (by decide +kernel)) ?_
  refine ak (ok_bipush (n := 6) (by decide) (by decide +kernel)) ?_
  refine ak (ok_invS (kF_within hsd l) iF_within tw553 (by decide) tw552 (by decide +kernel)) ?_
  refine ak (ok_if_ne (off := 9) (by decide) (by decide +kernel)) ?_
  refine ak (ok_aload_n (k := 0) rfl (by decide +kernel)) ?_
  refine ak (ok_iconst (n := 1) (by decide) (by decide +kernel)) ?_
  refine ak (ok_invV (r := 0) (kF_finding hsd l) qF_finding ck10 kd0 iF_finding tw557 tw0 (by decide) tw555 (by decide +kernel)) ?_
  refine ak (ok_ireturn rfl (by decide +kernel)) ?_
  refine ak (ok_aload_n (k := 0) rfl (by decide +kernel)) ?_
  refine ak (ok_get (k := 0) ck10 kd0 (by decide) (fun _ _ _ => rfl) (vf_0_0 hsd) tw522 (by decide +kernel)) ?_
  refine ak (ok_get (k := 11) ck9 kd1 (by decide) (fun _ _ _ => rfl) (vf_1_11 hsd) tw411 (by decide +kernel)) ?_
  refine ak (ok_iload_n (k := 1) rfl (by decide +kernel)) ?_
  refine ak (ok_aald (t0 := 6) (C := RX0) kd14 (by decide) rfl (vr_14 hsd) (by decide +kernel)) ?_
  refine ak (ok_astore_n (k := 3) rfl (by decide) (by decide +kernel)) ?_
  refine ak (ok_aload_n (k := 3) rfl (by decide +kernel)) ?_
  refine ak (ok_iload_n (k := 2) rfl (by decide +kernel)) ?_
  refine ak (ok_invV (r := 15) (kB_isOf hsd l) qB_isOf ck0 kd15 iB_isOf tw854 tw855 (by decide) tw853 (by decide +kernel)) ?_
  refine ak (ok_if_eq (off := 10) (by decide) (by decide +kernel)) ?_
  refine ak (ok_aload_n (k := 3) rfl (by decide +kernel)) ?_
  refine ak (ok_get (k := 4) ck0 kd15 (by decide) (fun _ _ _ => rfl) (fun _ _ _ _ _ => trivial) tw338 (by decide +kernel)) ?_
  refine ak (ok_goto (off := 8) (by decide) (by decide +kernel)) ?_
  refine ak (ok_aload_n (k := 0) rfl (by decide +kernel)) ?_
  refine ak (ok_iconst (n := 5) (by decide) (by decide +kernel)) ?_
  refine ak (ok_invV (r := 0) (kF_finding hsd l) qF_finding ck10 kd0 iF_finding tw557 tw0 (by decide) tw555 (by decide +kernel)) ?_
  refine ak (ok_ireturn rfl (by decide +kernel)) ?_
  exact trivial
set_option maxRecDepth 1000000 in
theorem eF_as (x1 : Int32) (x2 : Int32) (M : Mem) : run (cF_as) (fun _ _ _ _ => none) rtI 400 (seek (cF_as) 0) [aR (0, 0, 0), aI x1, aI x2, aU] [] M = mF_as x1 x2 M := id rfl
theorem lF_as {E : EV} {l : Launch} {p : Program} {e : Env} {s : State} {m : MethodId} {args : Array Value} {below : List Frame} {meth : Method} {c : Code} (A : AllOK E l 3 "FreeLances" prog_1_method_26_code 4 (some .int) outI (cF_as)) (C : Cx E p s m args meth c "FreeLances" prog_1_method_26_code 4 (some .int)) : ∀ (x1 : Int32) (x2 : Int32) (M : Mem) (res : (Int32 × Mem)), mF_as x1 x2 M = some res → Wm E p l e 3 s m args below meth c 4 0 [aR (0, 0, 0), aI x1, aI x2, aU] [] M (outI res).1 (outI res).2 := by
  intro x1 x2 M res h
  refine run_at C A rfl hrtI (n := 400) ((eF_as x1 x2 M).trans h) ?_
  intro t als st M hk; cases hk
def dF_as {β : Type} : Den β := fun as M k => match as with
  | [.inr (.inr (.inl (al0, bl0, cl0))), .inl x1, .inl x2] => if al0 = 0 ∧ bl0 = 0 ∧ cl0 = 0 then (mF_as x1 x2 M).bind fun q => k (aI q.1) q.2 else none
  | _ => none
theorem wF_as {E : EV} (hsd : E.2.2.2 = 0) (l : Launch) (x1 : Int32) (x2 : Int32) (M : Mem) (q : (Int32 × Mem)) (hq : mF_as x1 x2 M = some q) : Con E l 3 yF_as prog_1_method_26_code 4 (some .int) [aR (0, 0, 0), aI x1, aI x2] M (outI q).1 (outI q).2 := by
  refine con_of iF_as (Nat.le_of_ble_eq_true rfl) ?_
  intro p e s m args below meth c C
  exact lF_as (oF_as hsd l) C x1 x2 M _ hq
theorem kF_as {E : EV} (hsd : E.2.2.2 = 0) (l : Launch) {β : Type} : DenOK E l 3 yF_as prog_1_method_26_code 4 (some .int) true (dF_as (β := β)) := by
  intro as M k res h
  unfold dF_as at h
  split at h
  ·
    split at h
    · rename_i hc
      obtain ⟨rfl, rfl, rfl⟩ := hc
      obtain ⟨q, hq, hk⟩ := Option.bind_eq_some_iff.mp h
      exact ⟨aI q.1, q.2, hk, rfl, wF_as hsd l _ _ M q hq⟩
    · cases h
  · cases h
theorem qF_as {β : Type} : RecOK 0 (dF_as (β := β)) := by
  intro as M k res h
  unfold dF_as at h
  split at h
  ·
    split at h
    · rename_i hc
      obtain ⟨rfl, rfl, rfl⟩ := hc
      exact ⟨_, _, _, rfl⟩
    · cases h
  · cases h
/-! ===== FreeLances.bondIs(II)I ===== -/
abbrev yF_bondIs : MethodName := ⟨"FreeLances", "bondIs", "(II)I"⟩
theorem iF_bondIs : MI yF_bondIs prog_1_method_27_code 4 (some .int) 2 := ⟨tw862, tw97, ⟨by decide, by decide⟩, by decide +kernel, by decide, by decide⟩
def cF_bondIs : List (Ent (Int32 × Mem)) := [(false, 0, 1, sLdA 0),
  (false, 1, 1, sLdI 1),
  (false, 2, 3, sInv 2 true dF_isBond),
  (false, 5, 3, sIfNe 14),
  (false, 8, 1, sLdA 0),
  (false, 9, 1, sC 1),
  (false, 10, 3, sInv 2 true dF_finding),
  (false, 13, 1, sRetI),
  (false, 14, 1, sLdA 0),
  (false, 15, 3, sGet 0 (fun w i M => aR (1, 0, 0))),
  (false, 18, 3, sGet 1 (fun w i M => aR (14, w, 0))),
  (false, 21, 1, sLdI 1),
  (false, 22, 1, sAald 14 24 15),
  (false, 23, 1, sStA 3),
  (false, 24, 1, sLdI 2),
  (false, 25, 55, sSw 130 [(0, 80), (1, 85), (2, 90), (3, 95), (4, 100), (5, 105), (6, 110), (7, 115), (8, 120), (9, 125)]),
  (false, 80, 1, sLdA 3),
  (false, 81, 3, sGet 15 (fun w i M => aI (M 15 w i 0))),
  (false, 84, 1, sRetI),
  (false, 85, 1, sLdA 3),
  (false, 86, 3, sGet 15 (fun w i M => aI (M 15 w i 1))),
  (false, 89, 1, sRetI),
  (false, 90, 1, sLdA 3),
  (false, 91, 3, sGet 15 (fun w i M => aI (M 15 w i 2))),
  (false, 94, 1, sRetI),
  (false, 95, 1, sLdA 3),
  (false, 96, 3, sGet 15 (fun w i M => aI (M 15 w i 3))),
  (false, 99, 1, sRetI),
  (false, 100, 1, sLdA 3),
  (false, 101, 3, sGet 15 (fun w i M => aI (M 15 w i 5))),
  (false, 104, 1, sRetI),
  (false, 105, 1, sLdA 3),
  (false, 106, 3, sGet 15 (fun w i M => aI (M 15 w i 6))),
  (false, 109, 1, sRetI),
  (false, 110, 1, sLdA 3),
  (false, 111, 3, sGet 15 (fun w i M => aI (M 15 w i 7))),
  (false, 114, 1, sRetI),
  (false, 115, 1, sLdA 3),
  (false, 116, 3, sGet 15 (fun w i M => aI (M 15 w i 8))),
  (false, 119, 1, sRetI),
  (false, 120, 1, sLdA 3),
  (false, 121, 3, sGet 15 (fun w i M => aI (M 15 w i 9))),
  (false, 124, 1, sRetI),
  (false, 125, 1, sLdA 3),
  (false, 126, 3, sGet 15 (fun w i M => aI (M 15 w i 10))),
  (false, 129, 1, sRetI),
  (false, 130, 1, sLdA 0),
  (false, 131, 1, sC 1),
  (false, 132, 3, sInv 2 true dF_finding),
  (false, 135, 1, sRetI)]
theorem oF_bondIs {E : EV} (hsd : E.2.2.2 = 0) (l : Launch) : AllOK E l 3 "FreeLances" prog_1_method_27_code 4 (some .int) outI (cF_bondIs) := by
  refine ak (ok_aload_n (k := 0) rfl (by decide +kernel)) ?_
  refine ak (ok_iload_n (k := 1) rfl (by decide +kernel)) ?_
  refine ak (ok_invV (r := 0) (kF_isBond hsd l) qF_isBond ck10 kd0 iF_isBond tw826 tw18 (by decide) tw824 (by decide +kernel)) ?_
  refine ak (ok_if_ne (off := 9) (by decide) (by decide +kernel)) ?_
  refine ak (ok_aload_n (k := 0) rfl (by decide +kernel)) ?_
  refine ak (ok_iconst (n := 1) (by decide) (by decide +kernel)) ?_
  refine ak (ok_invV (r := 0) (kF_finding hsd l) qF_finding ck10 kd0 iF_finding tw557 tw0 (by decide) tw555 (by decide +kernel)) ?_
  refine ak (ok_ireturn rfl (by decide +kernel)) ?_
  refine ak (ok_aload_n (k := 0) rfl (by decide +kernel)) ?_
  refine ak (ok_get (k := 0) ck10 kd0 (by decide) (fun _ _ _ => rfl) (vf_0_0 hsd) tw522 (by decide +kernel)) ?_
  refine ak (ok_get (k := 11) ck9 kd1 (by decide) (fun _ _ _ => rfl) (vf_1_11 hsd) tw411 (by decide +kernel)) ?_
  refine ak (ok_iload_n (k := 1) rfl (by decide +kernel)) ?_
  refine ak (ok_aald (t0 := 6) (C := RX0) kd14 (by decide) rfl (vr_14 hsd) (by decide +kernel)) ?_
  refine ak (ok_astore_n (k := 3) rfl (by decide) (by decide +kernel)) ?_
  refine ak (ok_iload_n (k := 2) rfl (by decide +kernel)) ?_
  refine ak (ok_table (df := 105) (lo := 0) (hi := 9) (offs := #[55, 60, 65, 70, 75, 80, 85, 90, 95, 100]) (by decide) (by decide) (by decide) (by decide +kernel)) ?_
  refine ak (ok_aload_n (k := 3) rfl (by decide +kernel)) ?_
  refine ak (ok_get (k := 0) ck0 kd15 (by decide) (fun _ _ _ => rfl) (fun _ _ _ _ _ => trivial) tw326 (by decide +kernel)) ?_
  refine ak (ok_ireturn rfl (by decide +kernel)) ?_
  refine ak (ok_aload_n (k := 3) rfl (by decide +kernel)) ?_
  refine ak (ok_get (k := 1) ck0 kd15 (by decide) (fun _ _ _ => rfl) (fun _ _ _ _ _ => trivial) tw329 (by decide +kernel)) ?_
  refine ak (ok_ireturn rfl (by decide +kernel)) ?_
  refine ak (ok_aload_n (k := 3) rfl (by decide +kernel)) ?_
  refine ak (ok_get (k := 2) ck0 kd15 (by decide) (fun _ _ _ => rfl) (fun _ _ _ _ _ => trivial) tw331 (by decide +kernel)) ?_
  refine ak (ok_ireturn rfl (by decide +kernel)) ?_
  refine ak (ok_aload_n (k := 3) rfl (by decide +kernel)) ?_
  refine ak (ok_get (k := 3) ck0 kd15 (by decide) (fun _ _ _ => rfl) (fun _ _ _ _ _ => trivial) tw334 (by decide +kernel)) ?_
  refine ak (ok_ireturn rfl (by decide +kernel)) ?_
  refine ak (ok_aload_n (k := 3) rfl (by decide +kernel)) ?_
  refine ak (ok_get (k := 5) ck0 kd15 (by decide) (fun _ _ _ => rfl) (fun _ _ _ _ _ => trivial) tw341 (by decide +kernel)) ?_
  refine ak (ok_ireturn rfl (by decide +kernel)) ?_
  refine ak (ok_aload_n (k := 3) rfl (by decide +kernel)) ?_
  refine ak (ok_get (k := 6) ck0 kd15 (by decide) (fun _ _ _ => rfl) (fun _ _ _ _ _ => trivial) tw343 (by decide +kernel)) ?_
  refine ak (ok_ireturn rfl (by decide +kernel)) ?_
  refine ak (ok_aload_n (k := 3) rfl (by decide +kernel)) ?_
  refine ak (ok_get (k := 7) ck0 kd15 (by decide) (fun _ _ _ => rfl) (fun _ _ _ _ _ => trivial) tw346 (by decide +kernel)) ?_
  refine ak (ok_ireturn rfl (by decide +kernel)) ?_
  refine ak (ok_aload_n (k := 3) rfl (by decide +kernel)) ?_
  refine ak (ok_get (k := 8) ck0 kd15 (by decide) (fun _ _ _ => rfl) (fun _ _ _ _ _ => trivial) tw350 (by decide +kernel)) ?_
  refine ak (ok_ireturn rfl (by decide +kernel)) ?_
  refine ak (ok_aload_n (k := 3) rfl (by decide +kernel)) ?_
  refine ak (ok_get (k := 9) ck0 kd15 (by decide) (fun _ _ _ => rfl) (fun _ _ _ _ _ => trivial) tw353 (by decide +kernel)) ?_
  refine ak (ok_ireturn rfl (by decide +kernel)) ?_
  refine ak (ok_aload_n (k := 3) rfl (by decide +kernel)) ?_
  refine ak (ok_get (k := 10) ck0 kd15 (by decide) (fun _ _ _ => rfl) (fun _ _ _ _ _ => trivial) tw356 (by decide +kernel)) ?_
  refine ak (ok_ireturn rfl (by decide +kernel)) ?_
  refine ak (ok_aload_n (k := 0) rfl (by decide +kernel)) ?_
  refine ak (ok_iconst (n := 1) (by decide) (by decide +kernel)) ?_
  refine ak (ok_invV (r := 0) (kF_finding hsd l) qF_finding ck10 kd0 iF_finding tw557 tw0 (by decide) tw555 (by decide +kernel)) ?_
  refine ak (ok_ireturn rfl (by decide +kernel)) ?_
  exact trivial
set_option maxRecDepth 1000000 in
theorem eF_bondIs (x1 : Int32) (x2 : Int32) (M : Mem) : run (cF_bondIs) (fun _ _ _ _ => none) rtI 400 (seek (cF_bondIs) 0) [aR (0, 0, 0), aI x1, aI x2, aU] [] M = mF_bondIs x1 x2 M := id rfl
theorem lF_bondIs {E : EV} {l : Launch} {p : Program} {e : Env} {s : State} {m : MethodId} {args : Array Value} {below : List Frame} {meth : Method} {c : Code} (A : AllOK E l 3 "FreeLances" prog_1_method_27_code 4 (some .int) outI (cF_bondIs)) (C : Cx E p s m args meth c "FreeLances" prog_1_method_27_code 4 (some .int)) : ∀ (x1 : Int32) (x2 : Int32) (M : Mem) (res : (Int32 × Mem)), mF_bondIs x1 x2 M = some res → Wm E p l e 3 s m args below meth c 4 0 [aR (0, 0, 0), aI x1, aI x2, aU] [] M (outI res).1 (outI res).2 := by
  intro x1 x2 M res h
  refine run_at C A rfl hrtI (n := 400) ((eF_bondIs x1 x2 M).trans h) ?_
  intro t als st M hk; cases hk
def dF_bondIs {β : Type} : Den β := fun as M k => match as with
  | [.inr (.inr (.inl (al0, bl0, cl0))), .inl x1, .inl x2] => if al0 = 0 ∧ bl0 = 0 ∧ cl0 = 0 then (mF_bondIs x1 x2 M).bind fun q => k (aI q.1) q.2 else none
  | _ => none
theorem wF_bondIs {E : EV} (hsd : E.2.2.2 = 0) (l : Launch) (x1 : Int32) (x2 : Int32) (M : Mem) (q : (Int32 × Mem)) (hq : mF_bondIs x1 x2 M = some q) : Con E l 3 yF_bondIs prog_1_method_27_code 4 (some .int) [aR (0, 0, 0), aI x1, aI x2] M (outI q).1 (outI q).2 := by
  refine con_of iF_bondIs (Nat.le_of_ble_eq_true rfl) ?_
  intro p e s m args below meth c C
  exact lF_bondIs (oF_bondIs hsd l) C x1 x2 M _ hq
theorem kF_bondIs {E : EV} (hsd : E.2.2.2 = 0) (l : Launch) {β : Type} : DenOK E l 3 yF_bondIs prog_1_method_27_code 4 (some .int) true (dF_bondIs (β := β)) := by
  intro as M k res h
  unfold dF_bondIs at h
  split at h
  ·
    split at h
    · rename_i hc
      obtain ⟨rfl, rfl, rfl⟩ := hc
      obtain ⟨q, hq, hk⟩ := Option.bind_eq_some_iff.mp h
      exact ⟨aI q.1, q.2, hk, rfl, wF_bondIs hsd l _ _ M q hq⟩
    · cases h
  · cases h
theorem qF_bondIs {β : Type} : RecOK 0 (dF_bondIs (β := β)) := by
  intro as M k res h
  unfold dF_bondIs at h
  split at h
  ·
    split at h
    · rename_i hc
      obtain ⟨rfl, rfl, rfl⟩ := hc
      exact ⟨_, _, _, rfl⟩
    · cases h
  · cases h
/-! ===== FreeLances$Bond.oweLess(I)V ===== -/
abbrev yB_oweLess : MethodName := ⟨"FreeLances$Bond", "oweLess", "(I)V"⟩
theorem iB_oweLess : MI yB_oweLess prog_2_method_8_code 2 none 1 := ⟨tw870, tw104, ⟨by decide, by decide⟩, by decide +kernel, by decide, by decide⟩
def cB_oweLess : List (Ent Mem) := [(false, 0, 1, sLdA 0),
  (false, 1, 1, sDup),
  (false, 2, 3, sGet 15 (fun w i M => aI (M 15 w i 8))),
  (false, 5, 1, sLdI 1),
  (false, 6, 1, sBin (fun x y => x - y)),
  (false, 7, 3, sPut 15 8),
  (false, 10, 1, sLdA 0),
  (false, 11, 3, sGet 15 (fun w i M => aI (M 15 w i 8))),
  (false, 14, 3, sIfNe 22),
  (false, 17, 1, sLdA 0),
  (false, 18, 1, sC (-1)),
  (false, 19, 3, sPut 15 9),
  (false, 22, 1, sRetV)]
theorem oB_oweLess {E : EV} (hsd : E.2.2.2 = 0) (l : Launch) : AllOK E l 1 "FreeLances$Bond" prog_2_method_8_code 2 none outV (cB_oweLess) := by
  refine ak (ok_aload_n (k := 0) rfl (by decide +kernel)) ?_
  refine ak (ok_dup (by decide +kernel)) ?_
  refine ak (ok_get (k := 8) ck0 kd15 (by decide) (fun _ _ _ => rfl) (fun _ _ _ _ _ => trivial) tw348 (by decide +kernel)) ?_
  refine ak (ok_iload_n (k := 1) rfl (by decide +kernel)) ?_
  refine ak (ok_isub (by decide +kernel)) ?_
  refine ak (ok_put (k := 8) ck0 kd15 (by decide) (fun _ _ _ => rfl) rfl rfl (by decide) tw348 (by decide +kernel)) ?_
  refine ak (ok_aload_n (k := 0) rfl (by decide +kernel)) ?_
  refine ak (ok_get (k := 8) ck0 kd15 (by decide) (fun _ _ _ => rfl) (fun _ _ _ _ _ => trivial) tw348 (by decide +kernel)) ?_
  refine ak (ok_if_ne (off := 8) (by decide) (by decide +kernel)) ?_
  refine ak (ok_aload_n (k := 0) rfl (by decide +kernel)) ?_
  refine ak (ok_iconst (n := (-1)) (by decide) (by decide +kernel)) ?_
  refine ak (ok_put (k := 9) ck0 kd15 (by decide) (fun _ _ _ => rfl) rfl rfl (by decide) tw351 (by decide +kernel)) ?_
  refine ak (ok_return rfl (by decide +kernel)) ?_
  exact trivial
set_option maxRecDepth 1000000 in
theorem eB_oweLess (w0 : Nat) (i0 : Nat) (x1 : Int32) (M : Mem) : run (cB_oweLess) (fun _ _ _ _ => none) rtV 400 (seek (cB_oweLess) 0) [aR (15, w0, i0), aI x1] [] M = mB_oweLess w0 i0 x1 M := id rfl
theorem lB_oweLess {E : EV} {l : Launch} {p : Program} {e : Env} {s : State} {m : MethodId} {args : Array Value} {below : List Frame} {meth : Method} {c : Code} (A : AllOK E l 1 "FreeLances$Bond" prog_2_method_8_code 2 none outV (cB_oweLess)) (C : Cx E p s m args meth c "FreeLances$Bond" prog_2_method_8_code 2 none) : ∀ (w0 : Nat) (i0 : Nat) (x1 : Int32) (M : Mem) (res : Mem), mB_oweLess w0 i0 x1 M = some res → Wm E p l e 1 s m args below meth c 2 0 [aR (15, w0, i0), aI x1] [] M (outV res).1 (outV res).2 := by
  intro w0 i0 x1 M res h
  refine run_at C A rfl hrtV (n := 400) ((eB_oweLess w0 i0 x1 M).trans h) ?_
  intro t als st M hk; cases hk
def dB_oweLess {β : Type} : Den β := fun as M k => match as with
  | [.inr (.inr (.inl (al0, w0, i0))), .inl x1] => if al0 = 15 then (mB_oweLess w0 i0 x1 M).bind fun q => k aU q else none
  | _ => none
theorem wB_oweLess {E : EV} (hsd : E.2.2.2 = 0) (l : Launch) (w0 : Nat) (i0 : Nat) (x1 : Int32) (M : Mem) (q : Mem) (hq : mB_oweLess w0 i0 x1 M = some q) : Con E l 1 yB_oweLess prog_2_method_8_code 2 none [aR (15, w0, i0), aI x1] M (outV q).1 (outV q).2 := by
  refine con_of iB_oweLess (Nat.le_of_ble_eq_true rfl) ?_
  intro p e s m args below meth c C
  exact lB_oweLess (oB_oweLess hsd l) C w0 i0 x1 M _ hq
theorem kB_oweLess {E : EV} (hsd : E.2.2.2 = 0) (l : Launch) {β : Type} : DenOK E l 1 yB_oweLess prog_2_method_8_code 2 none false (dB_oweLess (β := β)) := by
  intro as M k res h
  unfold dB_oweLess at h
  split at h
  ·
    split at h
    · rename_i hc
      obtain rfl := hc
      obtain ⟨q, hq, hk⟩ := Option.bind_eq_some_iff.mp h
      exact ⟨aU, q, hk, rfl, wB_oweLess hsd l _ _ _ M q hq⟩
    · cases h
  · cases h
theorem qB_oweLess {β : Type} : RecOK 15 (dB_oweLess (β := β)) := by
  intro as M k res h
  unfold dB_oweLess at h
  split at h
  ·
    split at h
    · rename_i hc
      obtain rfl := hc
      exact ⟨_, _, _, rfl⟩
    · cases h
  · cases h
/-! ===== FreeLances.stop(II)I ===== -/
abbrev yF_stop : MethodName := ⟨"FreeLances", "stop", "(II)I"⟩
theorem iF_stop : MI yF_stop prog_1_method_28_code 4 (some .int) 2 := ⟨tw866, tw97, ⟨by decide, by decide⟩, by decide +kernel, by decide, by decide⟩
def cF_stop : List (Ent (Int32 × Mem)) := [(false, 0, 1, sLdA 0),
  (false, 1, 1, sLdI 1),
  (false, 2, 3, sInv 2 true dF_isBond),
  (false, 5, 3, sIfEq 19),
  (false, 8, 1, sLdI 2),
  (false, 9, 1, sC 1),
  (false, 10, 3, sC 9999),
  (false, 13, 3, sInv 3 true dF_within),
  (false, 16, 3, sIfNe 25),
  (false, 19, 1, sLdA 0),
  (false, 20, 1, sC 1),
  (false, 21, 3, sInv 2 true dF_finding),
  (false, 24, 1, sRetI),
  (false, 25, 1, sLdA 0),
  (false, 26, 3, sGet 0 (fun w i M => aR (1, 0, 0))),
  (false, 29, 3, sGet 1 (fun w i M => aR (14, w, 0))),
  (false, 32, 1, sLdI 1),
  (false, 33, 1, sAald 14 24 15),
  (false, 34, 1, sStA 3),
  (false, 35, 1, sLdA 3),
  (false, 36, 3, sInv 1 true dB_isContract),
  (false, 39, 3, sIfNe 48),
  (false, 42, 1, sLdA 0),
  (false, 43, 1, sC 5),
  (false, 44, 3, sInv 2 true dF_finding),
  (false, 47, 1, sRetI),
  (false, 48, 1, sLdA 3),
  (false, 49, 3, sGet 15 (fun w i M => aI (M 15 w i 8))),
  (false, 52, 1, sLdI 2),
  (false, 53, 3, sCmpGe 62),
  (false, 56, 1, sLdA 0),
  (false, 57, 1, sC 3),
  (false, 58, 3, sInv 2 true dF_finding),
  (false, 61, 1, sRetI),
  (false, 62, 1, sLdA 3),
  (false, 63, 1, sLdI 2),
  (false, 64, 3, sInv 2 false dB_oweLess),
  (false, 67, 1, sLdA 3),
  (false, 68, 3, sGet 15 (fun w i M => aI (M 15 w i 8))),
  (false, 71, 1, sRetI)]
theorem oF_stop {E : EV} (hsd : E.2.2.2 = 0) (l : Launch) : AllOK E l 3 "FreeLances" prog_1_method_28_code 4 (some .int) outI (cF_stop) := by
  refine ak (ok_aload_n (k := 0) rfl (by decide +kernel)) ?_
  refine ak (ok_iload_n (k := 1) rfl (by decide +kernel)) ?_
  refine ak (ok_invV (r := 0) (kF_isBond hsd l) qF_isBond ck10 kd0 iF_isBond tw826 tw18 (by decide) tw824 (by decide +kernel)) ?_
  refine ak (ok_if_eq (off := 14) (by decide) (by decide +kernel)) ?_
  refine ak (ok_iload_n (k := 2) rfl (by decide +kernel)) ?_
  refine ak (ok_iconst (n := 1) (by decide) (by decide +kernel)) ?_
  refine ak (ok_sipush (n := 9999) (by decide) (by decide +kernel)) ?_
  refine ak (ok_invS (kF_within hsd l) iF_within tw553 (by decide) tw552 (by decide +kernel)) ?_
  refine ak (ok_if_ne (off := 9) (by decide) (by decide +kernel)) ?_
  refine ak (ok_aload_n (k := 0) rfl (by decide +kernel)) ?_
  refine ak (ok_iconst (n := 1) (by decide) (by decide +kernel)) ?_
  refine ak (ok_invV (r := 0) (kF_finding hsd l) qF_finding ck10 kd0 iF_finding tw557 tw0 (by decide) tw555 (by decide +kernel)) ?_
  refine ak (ok_ireturn rfl (by decide +kernel)) ?_
  refine ak (ok_aload_n (k := 0) rfl (by decide +kernel)) ?_
  refine ak (ok_get (k := 0) ck10 kd0 (by decide) (fun _ _ _ => rfl) (vf_0_0 hsd) tw522 (by decide +kernel)) ?_
  refine ak (ok_get (k := 11) ck9 kd1 (by decide) (fun _ _ _ => rfl) (vf_1_11 hsd) tw411 (by decide +kernel)) ?_
  refine ak (ok_iload_n (k := 1) rfl (by decide +kernel)) ?_
  refine ak (ok_aald (t0 := 6) (C := RX0) kd14 (by decide) rfl (vr_14 hsd) (by decide +kernel)) ?_
  refine ak (ok_astore_n (k := 3) rfl (by decide) (by decide +kernel)) ?_
  refine ak (ok_aload_n (k := 3) rfl (by decide +kernel)) ?_
  refine ak (ok_invV (r := 15) (kB_isContract hsd l) qB_isContract ck0 kd15 iB_isContract tw643 tw644 (by decide) tw828 (by decide +kernel)) ?_
  refine ak (ok_if_ne (off := 9) (by decide) (by decide +kernel)) ?_
  refine ak (ok_aload_n (k := 0) rfl (by decide +kernel)) ?_
  refine ak (ok_iconst (n := 5) (by decide) (by decide +kernel)) ?_
  refine ak (ok_invV (r := 0) (kF_finding hsd l) qF_finding ck10 kd0 iF_finding tw557 tw0 (by decide) tw555 (by decide +kernel)) ?_
  refine ak (ok_ireturn rfl (by decide +kernel)) ?_
  refine ak (ok_aload_n (k := 3) rfl (by decide +kernel)) ?_
  refine ak (ok_get (k := 8) ck0 kd15 (by decide) (fun _ _ _ => rfl) (fun _ _ _ _ _ => trivial) tw350 (by decide +kernel)) ?_
  refine ak (ok_iload_n (k := 2) rfl (by decide +kernel)) ?_
  refine ak (ok_icmp_ge (off := 9) (by decide) (by decide +kernel)) ?_
  refine ak (ok_aload_n (k := 0) rfl (by decide +kernel)) ?_
  refine ak (ok_iconst (n := 3) (by decide) (by decide +kernel)) ?_
  refine ak (ok_invV (r := 0) (kF_finding hsd l) qF_finding ck10 kd0 iF_finding tw557 tw0 (by decide) tw555 (by decide +kernel)) ?_
  refine ak (ok_ireturn rfl (by decide +kernel)) ?_
  refine ak (ok_aload_n (k := 3) rfl (by decide +kernel)) ?_
  refine ak (ok_iload_n (k := 2) rfl (by decide +kernel)) ?_
  refine ak (ok_invV (r := 15) (kB_oweLess hsd l) qB_oweLess ck0 kd15 iB_oweLess tw868 tw869 (by decide) tw867 (by decide +kernel)) ?_
  refine ak (ok_aload_n (k := 3) rfl (by decide +kernel)) ?_
  refine ak (ok_get (k := 8) ck0 kd15 (by decide) (fun _ _ _ => rfl) (fun _ _ _ _ _ => trivial) tw350 (by decide +kernel)) ?_
  refine ak (ok_ireturn rfl (by decide +kernel)) ?_
  exact trivial
set_option maxRecDepth 1000000 in
theorem eF_stop (x1 : Int32) (x2 : Int32) (M : Mem) : run (cF_stop) (fun _ _ _ _ => none) rtI 400 (seek (cF_stop) 0) [aR (0, 0, 0), aI x1, aI x2, aU] [] M = mF_stop x1 x2 M := id rfl
theorem lF_stop {E : EV} {l : Launch} {p : Program} {e : Env} {s : State} {m : MethodId} {args : Array Value} {below : List Frame} {meth : Method} {c : Code} (A : AllOK E l 3 "FreeLances" prog_1_method_28_code 4 (some .int) outI (cF_stop)) (C : Cx E p s m args meth c "FreeLances" prog_1_method_28_code 4 (some .int)) : ∀ (x1 : Int32) (x2 : Int32) (M : Mem) (res : (Int32 × Mem)), mF_stop x1 x2 M = some res → Wm E p l e 3 s m args below meth c 4 0 [aR (0, 0, 0), aI x1, aI x2, aU] [] M (outI res).1 (outI res).2 := by
  intro x1 x2 M res h
  refine run_at C A rfl hrtI (n := 400) ((eF_stop x1 x2 M).trans h) ?_
  intro t als st M hk; cases hk
def dF_stop {β : Type} : Den β := fun as M k => match as with
  | [.inr (.inr (.inl (al0, bl0, cl0))), .inl x1, .inl x2] => if al0 = 0 ∧ bl0 = 0 ∧ cl0 = 0 then (mF_stop x1 x2 M).bind fun q => k (aI q.1) q.2 else none
  | _ => none
theorem wF_stop {E : EV} (hsd : E.2.2.2 = 0) (l : Launch) (x1 : Int32) (x2 : Int32) (M : Mem) (q : (Int32 × Mem)) (hq : mF_stop x1 x2 M = some q) : Con E l 3 yF_stop prog_1_method_28_code 4 (some .int) [aR (0, 0, 0), aI x1, aI x2] M (outI q).1 (outI q).2 := by
  refine con_of iF_stop (Nat.le_of_ble_eq_true rfl) ?_
  intro p e s m args below meth c C
  exact lF_stop (oF_stop hsd l) C x1 x2 M _ hq
theorem kF_stop {E : EV} (hsd : E.2.2.2 = 0) (l : Launch) {β : Type} : DenOK E l 3 yF_stop prog_1_method_28_code 4 (some .int) true (dF_stop (β := β)) := by
  intro as M k res h
  unfold dF_stop at h
  split at h
  ·
    split at h
    · rename_i hc
      obtain ⟨rfl, rfl, rfl⟩ := hc
      obtain ⟨q, hq, hk⟩ := Option.bind_eq_some_iff.mp h
      exact ⟨aI q.1, q.2, hk, rfl, wF_stop hsd l _ _ M q hq⟩
    · cases h
  · cases h
theorem qF_stop {β : Type} : RecOK 0 (dF_stop (β := β)) := by
  intro as M k res h
  unfold dF_stop at h
  split at h
  ·
    split at h
    · rename_i hc
      obtain ⟨rfl, rfl, rfl⟩ := hc
      exact ⟨_, _, _, rfl⟩
    · cases h
  · cases h
/-! ===== FreeLances.pay(II)I ===== -/
abbrev yF_pay : MethodName := ⟨"FreeLances", "pay", "(II)I"⟩
theorem iF_pay : MI yF_pay prog_1_method_29_code 4 (some .int) 2 := ⟨tw874, tw97, ⟨by decide, by decide⟩, by decide +kernel, by decide, by decide⟩
def cF_pay : List (Ent (Int32 × Mem)) := [(false, 0, 1, sLdA 0),
  (false, 1, 1, sLdI 1),
  (false, 2, 3, sInv 2 true dF_isBond),
  (false, 5, 3, sIfEq 19),
  (false, 8, 1, sLdI 2),
  (false, 9, 1, sC 1),
  (false, 10, 3, sC 9999),
  (false, 13, 3, sInv 3 true dF_within),
  (false, 16, 3, sIfNe 25),
  (false, 19, 1, sLdA 0),
  (false, 20, 1, sC 1),
  (false, 21, 3, sInv 2 true dF_finding),
  (false, 24, 1, sRetI),
  (false, 25, 1, sLdA 0),
  (false, 26, 3, sGet 0 (fun w i M => aR (1, 0, 0))),
  (false, 29, 3, sGet 1 (fun w i M => aR (14, w, 0))),
  (false, 32, 1, sLdI 1),
  (false, 33, 1, sAald 14 24 15),
  (false, 34, 1, sStA 3),
  (false, 35, 1, sLdA 3),
  (false, 36, 3, sInv 1 true dB_isContract),
  (false, 39, 3, sIfNe 48),
  (false, 42, 1, sLdA 0),
  (false, 43, 1, sC 5),
  (false, 44, 3, sInv 2 true dF_finding),
  (false, 47, 1, sRetI),
  (false, 48, 1, sLdA 3),
  (false, 49, 3, sGet 15 (fun w i M => aI (M 15 w i 8))),
  (false, 52, 1, sLdI 2),
  (false, 53, 3, sCmpGe 62),
  (false, 56, 1, sLdA 0),
  (false, 57, 1, sC 3),
  (false, 58, 3, sInv 2 true dF_finding),
  (false, 61, 1, sRetI),
  (false, 62, 1, sLdA 0),
  (false, 63, 3, sGet 0 (fun w i M => aR (1, 0, 0))),
  (false, 66, 3, sGet 1 (fun w i M => aR (2, w, 0))),
  (false, 69, 1, sLdA 3),
  (false, 70, 3, sGet 15 (fun w i M => aI (M 15 w i 5))),
  (false, 73, 1, sAald 2 8 3),
  (false, 74, 3, sGet 3 (fun w i M => aI (M 3 w i 0))),
  (false, 77, 1, sLdI 2),
  (false, 78, 3, sCmpGe 87),
  (false, 81, 1, sLdA 0),
  (false, 82, 1, sC 2),
  (false, 83, 3, sInv 2 true dF_finding),
  (false, 86, 1, sRetI),
  (false, 87, 1, sLdA 0),
  (false, 88, 3, sGet 0 (fun w i M => aR (1, 0, 0))),
  (false, 91, 1, sLdA 3),
  (false, 92, 3, sGet 15 (fun w i M => aI (M 15 w i 5))),
  (false, 95, 1, sLdA 3),
  (false, 96, 3, sGet 15 (fun w i M => aI (M 15 w i 1))),
  (false, 99, 1, sLdI 2),
  (false, 100, 3, sInv 4 false dW_coinToCompany),
  (false, 103, 1, sLdA 3),
  (false, 104, 1, sLdI 2),
  (false, 105, 3, sInv 2 false dB_oweLess),
  (false, 108, 1, sLdA 3),
  (false, 109, 3, sGet 15 (fun w i M => aI (M 15 w i 8))),
  (false, 112, 1, sRetI)]
theorem oF_pay {E : EV} (hsd : E.2.2.2 = 0) (l : Launch) : AllOK E l 3 "FreeLances" prog_1_method_29_code 4 (some .int) outI (cF_pay) := by
  refine ak (ok_aload_n (k := 0) rfl (by decide +kernel)) ?_
  refine ak (ok_iload_n (k := 1) rfl (by decide +kernel)) ?_
  refine ak (ok_invV (r := 0) (kF_isBond hsd l) qF_isBond ck10 kd0 iF_isBond tw826 tw18 (by decide) tw824 (by decide +kernel)) ?_
  refine ak (ok_if_eq (off := 14) (by decide) (by decide +kernel)) ?_
  refine ak (ok_iload_n (k := 2) rfl (by decide +kernel)) ?_
  refine ak (ok_iconst (n := 1) (by decide) (by decide +kernel)) ?_
  refine ak (ok_sipush (n := 9999) (by decide) (by decide +kernel)) ?_
  refine ak (ok_invS (kF_within hsd l) iF_within tw553 (by decide) tw552 (by decide +kernel)) ?_
  refine ak (ok_if_ne (off := 9) (by decide) (by decide +kernel)) ?_
  refine ak (ok_aload_n (k := 0) rfl (by decide +kernel)) ?_
  refine ak (ok_iconst (n := 1) (by decide) (by decide +kernel)) ?_
  refine ak (ok_invV (r := 0) (kF_finding hsd l) qF_finding ck10 kd0 iF_finding tw557 tw0 (by decide) tw555 (by decide +kernel)) ?_
  refine ak (ok_ireturn rfl (by decide +kernel)) ?_
  refine ak (ok_aload_n (k := 0) rfl (by decide +kernel)) ?_
  refine ak (ok_get (k := 0) ck10 kd0 (by decide) (fun _ _ _ => rfl) (vf_0_0 hsd) tw522 (by decide +kernel)) ?_
  refine ak (ok_get (k := 11) ck9 kd1 (by decide) (fun _ _ _ => rfl) (vf_1_11 hsd) tw411 (by decide +kernel)) ?_
  refine ak (ok_iload_n (k := 1) rfl (by decide +kernel)) ?_
  refine ak (ok_aald (t0 := 6) (C := RX0) kd14 (by decide) rfl (vr_14 hsd) (by decide +kernel)) ?_
  refine ak (ok_astore_n (k := 3) rfl (by decide) (by decide +kernel)) ?_
  refine ak (ok_aload_n (k := 3) rfl (by decide +kernel)) ?_
  refine ak (ok_invV (r := 15) (kB_isContract hsd l) qB_isContract ck0 kd15 iB_isContract tw643 tw644 (by decide) tw828 (by decide +kernel)) ?_
  refine ak (ok_if_ne (off := 9) (by decide) (by decide +kernel)) ?_
  refine ak (ok_aload_n (k := 0) rfl (by decide +kernel)) ?_
  refine ak (ok_iconst (n := 5) (by decide) (by decide +kernel)) ?_
  refine ak (ok_invV (r := 0) (kF_finding hsd l) qF_finding ck10 kd0 iF_finding tw557 tw0 (by decide) tw555 (by decide +kernel)) ?_
  refine ak (ok_ireturn rfl (by decide +kernel)) ?_
  refine ak (ok_aload_n (k := 3) rfl (by decide +kernel)) ?_
  refine ak (ok_get (k := 8) ck0 kd15 (by decide) (fun _ _ _ => rfl) (fun _ _ _ _ _ => trivial) tw350 (by decide +kernel)) ?_
  refine ak (ok_iload_n (k := 2) rfl (by decide +kernel)) ?_
  refine ak (ok_icmp_ge (off := 9) (by decide) (by decide +kernel)) ?_
  refine ak (ok_aload_n (k := 0) rfl (by decide +kernel)) ?_
  refine ak (ok_iconst (n := 3) (by decide) (by decide +kernel)) ?_
  refine ak (ok_invV (r := 0) (kF_finding hsd l) qF_finding ck10 kd0 iF_finding tw557 tw0 (by decide) tw555 (by decide +kernel)) ?_
  refine ak (ok_ireturn rfl (by decide +kernel)) ?_
  refine ak (ok_aload_n (k := 0) rfl (by decide +kernel)) ?_
  refine ak (ok_get (k := 0) ck10 kd0 (by decide) (fun _ _ _ => rfl) (vf_0_0 hsd) tw522 (by decide +kernel)) ?_
  refine ak (ok_get (k := 1) ck9 kd1 (by decide) (fun _ _ _ => rfl) (vf_1_1 hsd) tw389 (by decide +kernel)) ?_
  refine ak (ok_aload_n (k := 3) rfl (by decide +kernel)) ?_
  refine ak (ok_get (k := 5) ck0 kd15 (by decide) (fun _ _ _ => rfl) (fun _ _ _ _ _ => trivial) tw341 (by decide +kernel)) ?_
  refine ak (ok_aald (t0 := 2) (C := RX7) kd2 (by decide) rfl (vr_2 hsd) (by decide +kernel)) ?_
  refine ak (ok_get (k := 0) ck7 kd3 (by decide) (fun _ _ _ => rfl) (fun _ _ _ _ _ => trivial) tw175 (by decide +kernel)) ?_
  refine ak (ok_iload_n (k := 2) rfl (by decide +kernel)) ?_
  refine ak (ok_icmp_ge (off := 9) (by decide) (by decide +kernel)) ?_
  refine ak (ok_aload_n (k := 0) rfl (by decide +kernel)) ?_
  refine ak (ok_iconst (n := 2) (by decide) (by decide +kernel)) ?_
  refine ak (ok_invV (r := 0) (kF_finding hsd l) qF_finding ck10 kd0 iF_finding tw557 tw0 (by decide) tw555 (by decide +kernel)) ?_
  refine ak (ok_ireturn rfl (by decide +kernel)) ?_
  refine ak (ok_aload_n (k := 0) rfl (by decide +kernel)) ?_
  refine ak (ok_get (k := 0) ck10 kd0 (by decide) (fun _ _ _ => rfl) (vf_0_0 hsd) tw522 (by decide +kernel)) ?_
  refine ak (ok_aload_n (k := 3) rfl (by decide +kernel)) ?_
  refine ak (ok_get (k := 5) ck0 kd15 (by decide) (fun _ _ _ => rfl) (fun _ _ _ _ _ => trivial) tw341 (by decide +kernel)) ?_
  refine ak (ok_aload_n (k := 3) rfl (by decide +kernel)) ?_
  refine ak (ok_get (k := 1) ck0 kd15 (by decide) (fun _ _ _ => rfl) (fun _ _ _ _ _ => trivial) tw329 (by decide +kernel)) ?_
  refine ak (ok_iload_n (k := 2) rfl (by decide +kernel)) ?_
  refine ak (ok_invV (r := 1) (kW_coinToCompany hsd l) qW_coinToCompany ck9 kd1 iW_coinToCompany tw834 tw835 (by decide) tw833 (by decide +kernel)) ?_
  refine ak (ok_aload_n (k := 3) rfl (by decide +kernel)) ?_
  refine ak (ok_iload_n (k := 2) rfl (by decide +kernel)) ?_
  refine ak (ok_invV (r := 15) (kB_oweLess hsd l) qB_oweLess ck0 kd15 iB_oweLess tw868 tw869 (by decide) tw867 (by decide +kernel)) ?_
  refine ak (ok_aload_n (k := 3) rfl (by decide +kernel)) ?_
  refine ak (ok_get (k := 8) ck0 kd15 (by decide) (fun _ _ _ => rfl) (fun _ _ _ _ _ => trivial) tw350 (by decide +kernel)) ?_
  refine ak (ok_ireturn rfl (by decide +kernel)) ?_
  exact trivial
set_option maxRecDepth 1000000 in
theorem eF_pay (x1 : Int32) (x2 : Int32) (M : Mem) : run (cF_pay) (fun _ _ _ _ => none) rtI 400 (seek (cF_pay) 0) [aR (0, 0, 0), aI x1, aI x2, aU] [] M = mF_pay x1 x2 M := id rfl
theorem lF_pay {E : EV} {l : Launch} {p : Program} {e : Env} {s : State} {m : MethodId} {args : Array Value} {below : List Frame} {meth : Method} {c : Code} (A : AllOK E l 3 "FreeLances" prog_1_method_29_code 4 (some .int) outI (cF_pay)) (C : Cx E p s m args meth c "FreeLances" prog_1_method_29_code 4 (some .int)) : ∀ (x1 : Int32) (x2 : Int32) (M : Mem) (res : (Int32 × Mem)), mF_pay x1 x2 M = some res → Wm E p l e 3 s m args below meth c 4 0 [aR (0, 0, 0), aI x1, aI x2, aU] [] M (outI res).1 (outI res).2 := by
  intro x1 x2 M res h
  refine run_at C A rfl hrtI (n := 400) ((eF_pay x1 x2 M).trans h) ?_
  intro t als st M hk; cases hk
def dF_pay {β : Type} : Den β := fun as M k => match as with
  | [.inr (.inr (.inl (al0, bl0, cl0))), .inl x1, .inl x2] => if al0 = 0 ∧ bl0 = 0 ∧ cl0 = 0 then (mF_pay x1 x2 M).bind fun q => k (aI q.1) q.2 else none
  | _ => none
theorem wF_pay {E : EV} (hsd : E.2.2.2 = 0) (l : Launch) (x1 : Int32) (x2 : Int32) (M : Mem) (q : (Int32 × Mem)) (hq : mF_pay x1 x2 M = some q) : Con E l 3 yF_pay prog_1_method_29_code 4 (some .int) [aR (0, 0, 0), aI x1, aI x2] M (outI q).1 (outI q).2 := by
  refine con_of iF_pay (Nat.le_of_ble_eq_true rfl) ?_
  intro p e s m args below meth c C
  exact lF_pay (oF_pay hsd l) C x1 x2 M _ hq
theorem kF_pay {E : EV} (hsd : E.2.2.2 = 0) (l : Launch) {β : Type} : DenOK E l 3 yF_pay prog_1_method_29_code 4 (some .int) true (dF_pay (β := β)) := by
  intro as M k res h
  unfold dF_pay at h
  split at h
  ·
    split at h
    · rename_i hc
      obtain ⟨rfl, rfl, rfl⟩ := hc
      obtain ⟨q, hq, hk⟩ := Option.bind_eq_some_iff.mp h
      exact ⟨aI q.1, q.2, hk, rfl, wF_pay hsd l _ _ M q hq⟩
    · cases h
  · cases h
theorem qF_pay {β : Type} : RecOK 0 (dF_pay (β := β)) := by
  intro as M k res h
  unfold dF_pay at h
  split at h
  ·
    split at h
    · rename_i hc
      obtain ⟨rfl, rfl, rfl⟩ := hc
      exact ⟨_, _, _, rfl⟩
    · cases h
  · cases h
