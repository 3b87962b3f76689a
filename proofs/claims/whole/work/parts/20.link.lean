/-! ===== FreeLances.serves(II)I ===== -/
abbrev yF_serves : MethodName := ⟨"FreeLances", "serves", "(II)I"⟩
theorem iF_serves : MI yF_serves prog_1_method_30_code 4 (some .int) 2 := ⟨tw878, tw97, ⟨by decide, by decide⟩, by decide +kernel, by decide, by decide⟩
def cF_serves : List (Ent (Int32 × Mem)) := [(false, 0, 1, sLdA 0),
  (false, 1, 1, sLdI 1),
  (false, 2, 3, sInv 2 true dF_isCompany),
  (false, 5, 3, sIfEq 15),
  (false, 8, 1, sLdI 2),
  (false, 9, 3, sInv 1 true dF_isDay),
  (false, 12, 3, sIfNe 21),
  (false, 15, 1, sLdA 0),
  (false, 16, 1, sC 1),
  (false, 17, 3, sInv 2 true dF_finding),
  (false, 20, 1, sRetI),
  (false, 21, 1, sLdA 0),
  (false, 22, 3, sGet 0 (fun w i M => aR (1, 0, 0))),
  (false, 25, 1, sLdI 1),
  (false, 26, 1, sLdI 2),
  (false, 27, 3, sInv 3 true dW_served),
  (false, 30, 1, sStI 3),
  (false, 31, 1, sLdI 3),
  (false, 32, 3, sIfGe 43),
  (false, 35, 1, sLdA 0),
  (false, 36, 1, sC 2),
  (false, 37, 3, sInv 2 true dF_finding),
  (false, 40, 3, sGoto 44),
  (false, 43, 1, sLdI 3),
  (false, 44, 1, sRetI)]
theorem oF_serves {E : EV} (hsd : E.2.2.2 = 0) (l : Launch) : AllOK E l 4 "FreeLances" prog_1_method_30_code 4 (some .int) outI (cF_serves) := by
  refine ak (ok_aload_n (k := 0) rfl (by decide +kernel)) ?_
  refine ak (ok_iload_n (k := 1) rfl (by decide +kernel)) ?_
  refine ak (ok_invV (r := 0) (kF_isCompany hsd l) qF_isCompany ck10 kd0 iF_isCompany tw620 tw2 (by decide) tw618 (by decide +kernel)) ?_
  refine ak (ok_if_eq (off := 10) (by decide) (by decide +kernel)) ?_
  refine ak (ok_iload_n (k := 2) rfl (by decide +kernel)) ?_
  refine ak (ok_invS (kF_isDay hsd l) iF_isDay tw778 (by decide) tw777 (by decide +kernel)) ?_
  refine ak (ok_if_ne (off := 9) (by decide) (by decide +kernel)) ?_
  refine ak (ok_aload_n (k := 0) rfl (by decide +kernel)) ?_
  refine ak (ok_iconst (n := 1) (by decide) (by decide +kernel)) ?_
  refine ak (ok_invV (r := 0) (kF_finding hsd l) qF_finding ck10 kd0 iF_finding tw557 tw0 (by decide) tw555 (by decide +kernel)) ?_
  refine ak (ok_ireturn rfl (by decide +kernel)) ?_
  refine ak (ok_aload_n (k := 0) rfl (by decide +kernel)) ?_
  refine ak (ok_get (k := 0) ck10 kd0 (by decide) (fun _ _ _ => rfl) (vf_0_0 hsd) tw522 (by decide +kernel)) ?_
  refine ak (ok_iload_n (k := 1) rfl (by decide +kernel)) ?_
  refine ak (ok_iload_n (k := 2) rfl (by decide +kernel)) ?_
  refine ak (ok_invV (r := 1) (kW_served hsd l) qW_served ck9 kd1 iW_served tw635 tw636 (by decide) tw634 (by decide +kernel)) ?_
  refine ak (ok_istore_n (k := 3) rfl (by decide) (by decide +kernel)) ?_
  refine ak (ok_iload_n (k := 3) rfl (by decide +kernel)) ?_
  refine ak (ok_if_ge (off := 11) (by decide) (by decide +kernel)) ?_
  refine ak (ok_aload_n (k := 0) rfl (by decide +kernel)) ?_
  refine ak (ok_iconst (n := 2) (by decide) (by decide +kernel)) ?_
  refine ak (ok_invV (r := 0) (kF_finding hsd l) qF_finding ck10 kd0 iF_finding tw557 tw0 (by decide) tw555 (by decide +kernel)) ?_
  refine ak (ok_goto (off := 4) (by decide) (by decide +kernel)) ?_
  refine ak (ok_iload_n (k := 3) rfl (by decide +kernel)) ?_
  refine ak (ok_ireturn rfl (by decide +kernel)) ?_
  exact trivial
set_option maxRecDepth 1000000 in
theorem eF_serves (x1 : Int32) (x2 : Int32) (M : Mem) : run (cF_serves) (fun _ _ _ _ => none) rtI 400 (seek (cF_serves) 0) [aR (0, 0, 0), aI x1, aI x2, aU] [] M = mF_serves x1 x2 M := id rfl
theorem lF_serves {E : EV} {l : Launch} {p : Program} {e : Env} {s : State} {m : MethodId} {args : Array Value} {below : List Frame} {meth : Method} {c : Code} (A : AllOK E l 4 "FreeLances" prog_1_method_30_code 4 (some .int) outI (cF_serves)) (C : Cx E p s m args meth c "FreeLances" prog_1_method_30_code 4 (some .int)) : ∀ (x1 : Int32) (x2 : Int32) (M : Mem) (res : (Int32 × Mem)), mF_serves x1 x2 M = some res → Wm E p l e 4 s m args below meth c 4 0 [aR (0, 0, 0), aI x1, aI x2, aU] [] M (outI res).1 (outI res).2 := by
  intro x1 x2 M res h
  refine run_at C A rfl hrtI (n := 400) ((eF_serves x1 x2 M).trans h) ?_
  intro t als st M hk; cases hk
def dF_serves {β : Type} : Den β := fun as M k => match as with
  | [.inr (.inr (.inl (al0, bl0, cl0))), .inl x1, .inl x2] => if al0 = 0 ∧ bl0 = 0 ∧ cl0 = 0 then (mF_serves x1 x2 M).bind fun q => k (aI q.1) q.2 else none
  | _ => none
theorem wF_serves {E : EV} (hsd : E.2.2.2 = 0) (l : Launch) (x1 : Int32) (x2 : Int32) (M : Mem) (q : (Int32 × Mem)) (hq : mF_serves x1 x2 M = some q) : Con E l 4 yF_serves prog_1_method_30_code 4 (some .int) [aR (0, 0, 0), aI x1, aI x2] M (outI q).1 (outI q).2 := by
  refine con_of iF_serves (Nat.le_of_ble_eq_true rfl) ?_
  intro p e s m args below meth c C
  exact lF_serves (oF_serves hsd l) C x1 x2 M _ hq
theorem kF_serves {E : EV} (hsd : E.2.2.2 = 0) (l : Launch) {β : Type} : DenOK E l 4 yF_serves prog_1_method_30_code 4 (some .int) true (dF_serves (β := β)) := by
  intro as M k res h
  unfold dF_serves at h
  split at h
  ·
    split at h
    · rename_i hc
      obtain ⟨rfl, rfl, rfl⟩ := hc
      obtain ⟨q, hq, hk⟩ := Option.bind_eq_some_iff.mp h
      exact ⟨aI q.1, q.2, hk, rfl, wF_serves hsd l _ _ M q hq⟩
    · cases h
  · cases h
theorem qF_serves {β : Type} : RecOK 0 (dF_serves (β := β)) := by
  intro as M k res h
  unfold dF_serves at h
  split at h
  ·
    split at h
    · rename_i hc
      obtain ⟨rfl, rfl, rfl⟩ := hc
      exact ⟨_, _, _, rfl⟩
    · cases h
  · cases h
/-! ===== FreeLances$World.truceDay(LFreeLances$Bond;LFreeLances$Bond;)I ===== -/
abbrev yW_truceDay : MethodName := ⟨"FreeLances$World", "truceDay", "(LFreeLances$Bond;LFreeLances$Bond;)I"⟩
theorem iW_truceDay : MI yW_truceDay prog_11_method_23_code 12 (some .int) 2 := ⟨tw898, tw98, ⟨by decide, by decide⟩, by decide +kernel, by decide, by decide⟩
def cW_truceDay : List (Ent (Int32 × Mem)) := [(false, 0, 1, sLdA 2),
  (false, 1, 3, sGet 15 (fun w i M => aI (M 15 w i 1))),
  (false, 4, 1, sLdA 1),
  (false, 5, 3, sGet 15 (fun w i M => aI (M 15 w i 1))),
  (false, 8, 3, sCmpNe 15),
  (false, 11, 1, sC 1),
  (false, 12, 3, sGoto 16),
  (false, 15, 1, sC 0),
  (false, 16, 1, sStI 3),
  (false, 17, 1, sLdI 3),
  (false, 18, 3, sIfNe 34),
  (false, 21, 1, sLdA 2),
  (false, 22, 3, sGet 15 (fun w i M => aI (M 15 w i 7))),
  (false, 25, 1, sLdA 1),
  (false, 26, 3, sGet 15 (fun w i M => aI (M 15 w i 1))),
  (false, 29, 3, sCmpEq 34),
  (false, 32, 1, sC (-1)),
  (false, 33, 1, sRetI),
  (true, 34, 1, sLdI 3),
  (false, 35, 3, sIfEq 45),
  (false, 38, 1, sLdA 2),
  (false, 39, 3, sGet 15 (fun w i M => aI (M 15 w i 7))),
  (false, 42, 3, sGoto 49),
  (false, 45, 1, sLdA 2),
  (false, 46, 3, sGet 15 (fun w i M => aI (M 15 w i 1))),
  (false, 49, 2, sStI 4),
  (false, 51, 1, sLdA 1),
  (false, 52, 3, sGet 15 (fun w i M => aI (M 15 w i 2))),
  (false, 55, 1, sLdA 2),
  (false, 56, 3, sGet 15 (fun w i M => aI (M 15 w i 2))),
  (false, 59, 3, sMax),
  (false, 62, 2, sStI 5),
  (false, 64, 1, sLdA 1),
  (false, 65, 3, sGet 15 (fun w i M => aI (M 15 w i 3))),
  (false, 68, 1, sLdA 2),
  (false, 69, 3, sGet 15 (fun w i M => aI (M 15 w i 3))),
  (false, 72, 3, sMin),
  (false, 75, 2, sStI 6),
  (false, 77, 1, sC (-1)),
  (false, 78, 2, sStI 7),
  (false, 80, 1, sC 0),
  (false, 81, 2, sStI 8),
  (true, 83, 2, sLdI 8),
  (false, 85, 1, sLdA 0),
  (false, 86, 3, sGet 1 (fun w i M => aI (M 1 w i 12))),
  (false, 89, 3, sCmpGe 184),
  (false, 92, 1, sLdA 0),
  (false, 93, 3, sGet 1 (fun w i M => aR (14, w, 0))),
  (false, 96, 2, sLdI 8),
  (false, 98, 1, sAald 14 24 15),
  (false, 99, 2, sStA 9),
  (false, 101, 2, sLdI 5),
  (false, 103, 2, sLdA 9),
  (false, 105, 3, sGet 15 (fun w i M => aI (M 15 w i 2))),
  (false, 108, 3, sMax),
  (false, 111, 2, sStI 10),
  (false, 113, 2, sLdA 9),
  (false, 115, 2, sLdI 4),
  (false, 117, 3, sInv 2 true dB_isContractOf),
  (false, 120, 3, sIfEq 154),
  (false, 123, 2, sLdA 9),
  (false, 125, 3, sGet 15 (fun w i M => aI (M 15 w i 5))),
  (false, 128, 1, sLdA 1),
  (false, 129, 3, sGet 15 (fun w i M => aI (M 15 w i 6))),
  (false, 132, 3, sCmpNe 154),
  (false, 135, 2, sLdI 10),
  (false, 137, 2, sLdI 6),
  (false, 139, 2, sLdA 9),
  (false, 141, 3, sGet 15 (fun w i M => aI (M 15 w i 3))),
  (false, 144, 3, sMin),
  (false, 147, 3, sCmpGt 154),
  (false, 150, 1, sC 1),
  (false, 151, 3, sGoto 155),
  (true, 154, 1, sC 0),
  (false, 155, 2, sStI 11),
  (false, 157, 2, sLdI 11),
  (false, 159, 3, sIfEq 178),
  (false, 162, 2, sLdI 7),
  (false, 164, 3, sIfLt 174),
  (false, 167, 2, sLdI 10),
  (false, 169, 2, sLdI 7),
  (false, 171, 3, sCmpGe 178),
  (false, 174, 2, sLdI 10),
  (false, 176, 2, sStI 7),
  (false, 178, 3, sInc 8 1),
  (false, 181, 3, sGoto 83),
  (false, 184, 2, sLdI 7),
  (false, 186, 1, sRetI)]
theorem oW_truceDay {E : EV} (hsd : E.2.2.2 = 0) (l : Launch) : AllOK E l 3 "FreeLances$World" prog_11_method_23_code 12 (some .int) outI (cW_truceDay) := by
  refine ak (ok_aload_n (k := 2) rfl (by decide +kernel)) ?_
  refine ak (ok_get (k := 1) ck0 kd15 (by decide) (fun _ _ _ => rfl) (fun _ _ _ _ _ => trivial) tw328 (by decide +kernel)) ?_
  refine ak (ok_aload_n (k := 1) rfl (by decide +kernel)) ?_
  refine ak (ok_get (k := 1) ck0 kd15 (by decide) (fun _ _ _ => rfl) (fun _ _ _ _ _ => trivial) tw328 (by decide +kernel)) ?_
  refine ak (ok_icmp_ne (off := 7) (by decide) (by decide +kernel)) ?_
  refine ak (ok_iconst (n := 1) (by decide) (by decide +kernel)) ?_
  refine ak (ok_goto (off := 4) (by decide) (by decide +kernel)) ?_
  refine ak (ok_iconst (n := 0) (by decide) (by decide +kernel)) ?_
  refine ak (ok_istore_n (k := 3) rfl (by decide) (by decide +kernel)) ?_
  refine ak (ok_iload_n (k := 3) rfl (by decide +kernel)) ?_
  refine ak (ok_if_ne (off := 16) (by decide) (by decide +kernel)) ?_
  refine ak (ok_aload_n (k := 2) rfl (by decide +kernel)) ?_
  refine ak (ok_get (k := 7) ck0 kd15 (by decide) (fun _ _ _ => rfl) (fun _ _ _ _ _ => trivial) tw347 (by decide +kernel)) ?_
  refine ak (ok_aload_n (k := 1) rfl (by decide +kernel)) ?_
  refine ak (ok_get (k := 1) ck0 kd15 (by decide) (fun _ _ _ => rfl) (fun _ _ _ _ _ => trivial) tw328 (by decide +kernel)) ?_
  refine ak (ok_icmp_eq (off := 5) (by decide) (by decide +kernel)) ?_
  refine ak (ok_iconst (n := (-1)) (by decide) (by decide +kernel)) ?_
  refine ak (ok_ireturn rfl (by decide +kernel)) ?_
  refine ak (ok_iload_n (k := 3) rfl (by decide +kernel)) ?_
  refine ak (ok_if_eq (off := 10) (by decide) (by decide +kernel)) ?_
  refine ak (ok_aload_n (k := 2) rfl (by decide +kernel)) ?_
  refine ak (ok_get (k := 7) ck0 kd15 (by decide) (fun _ _ _ => rfl) (fun _ _ _ _ _ => trivial) tw347 (by decide +kernel)) ?_
  refine ak (ok_goto (off := 7) (by decide) (by decide +kernel)) ?_
  refine ak (ok_aload_n (k := 2) rfl (by decide +kernel)) ?_
  refine ak (ok_get (k := 1) ck0 kd15 (by decide) (fun _ _ _ => rfl) (fun _ _ _ _ _ => trivial) tw328 (by decide +kernel)) ?_
  refine ak (ok_istore (by decide) (by decide +kernel)) ?_
  refine ak (ok_aload_n (k := 1) rfl (by decide +kernel)) ?_
  refine ak (ok_get (k := 2) ck0 kd15 (by decide) (fun _ _ _ => rfl) (fun _ _ _ _ _ => trivial) tw332 (by decide +kernel)) ?_
  refine ak (ok_aload_n (k := 2) rfl (by decide +kernel)) ?_
  refine ak (ok_get (k := 2) ck0 kd15 (by decide) (fun _ _ _ => rfl) (fun _ _ _ _ _ => trivial) tw332 (by decide +kernel)) ?_
  refine ak (ok_mmax (by decide) tw887 tw888 tw109 twMmax (by decide +kernel)) ?_
  refine ak (ok_istore (by decide) (by decide +kernel)) ?_
  refine ak (ok_aload_n (k := 1) rfl (by decide +kernel)) ?_
  refine ak (ok_get (k := 3) ck0 kd15 (by decide) (fun _ _ _ => rfl) (fun _ _ _ _ _ => trivial) tw335 (by decide +kernel)) ?_
  refine ak (ok_aload_n (k := 2) rfl (by decide +kernel)) ?_
  refine ak (ok_get (k := 3) ck0 kd15 (by decide) (fun _ _ _ => rfl) (fun _ _ _ _ _ => trivial) tw335 (by decide +kernel)) ?_
  refine ak (ok_mmin (by decide) tw580 tw581 tw109 twMmin (by decide +kernel)) ?_
  refine ak (ok_istore (by decide) (by decide +kernel)) ?_
  refine ak (ok_iconst (n := (-1)) (by decide) (by decide +kernel)) ?_
  refine ak (ok_istore (by decide) (by decide +kernel)) ?_
  refine ak (ok_iconst (n := 0) (by decide) (by decide +kernel)) ?_
  refine ak (ok_istore (by decide) (by decide +kernel)) ?_
  refine ak (ok_iload (by decide +kernel)) ?_
  refine ak (ok_aload_n (k := 0) rfl (by decide +kernel)) ?_
  refine ak (ok_get (k := 12) ck9 kd1 (by decide) (fun _ _ _ => rfl) (fun _ _ _ _ _ => trivial) tw412 (by decide +kernel)) ?_
  refine ak (ok_icmp_ge (off := 95) (by decide) (by decide +kernel)) ?_
  refine ak (ok_aload_n (k := 0) rfl (by decide +kernel)) ?_
  refine ak (ok_get (k := 11) ck9 kd1 (by decide) (fun _ _ _ => rfl) (vf_1_11 hsd) tw410 (by decide +kernel)) ?_
  refine ak (ok_iload (by decide +kernel)) ?_
  refine ak (ok_aald (t0 := 6) (C := RX0) kd14 (by decide) rfl (vr_14 hsd) (by decide +kernel)) ?_
  refine ak (ok_astore (by decide) (by decide +kernel)) ?_
  refine ak (ok_iload (by decide +kernel)) ?_
  refine ak (ok_aload (by decide +kernel)) ?_
  refine ak (ok_get (k := 2) ck0 kd15 (by decide) (fun _ _ _ => rfl) (fun _ _ _ _ _ => trivial) tw332 (by decide +kernel)) ?_
  refine ak (ok_mmax (by decide) tw887 tw888 tw109 twMmax (by decide +kernel)) ?_
  refine ak (ok_istore (by decide) (by decide +kernel)) ?_
  refine ak (ok_aload (by decide +kernel)) ?_
  refine ak (ok_iload (by decide +kernel)) ?_
  refine ak (ok_invV (r := 15) (kB_isContractOf hsd l) qB_isContractOf ck0 kd15 iB_isContractOf tw639 tw640 (by decide) tw638 (by decide +kernel)) ?_
  refine ak (ok_if_eq (off := 34) (by decide) (by decide +kernel)) ?_
  refine ak (ok_aload (by decide +kernel)) ?_
  refine ak (ok_get (k := 5) ck0 kd15 (by decide) (fun _ _ _ => rfl) (fun _ _ _ _ _ => trivial) tw340 (by decide +kernel)) ?_
  refine ak (ok_aload_n (k := 1) rfl (by decide +kernel)) ?_
  refine ak (ok_get (k := 6) ck0 kd15 (by decide) (fun _ _ _ => rfl) (fun _ _ _ _ _ => trivial) tw344 (by decide +kernel)) ?_
  refine ak (ok_icmp_ne (off := 22) (by decide) (by decide +kernel)) ?_
  refine ak (ok_iload (by decide +kernel)) ?_
  refine ak (ok_iload (by decide +kernel)) ?_
  refine ak (ok_aload (by decide +kernel)) ?_
  refine ak (ok_get (k := 3) ck0 kd15 (by decide) (fun _ _ _ => rfl) (fun _ _ _ _ _ => trivial) tw335 (by decide +kernel)) ?_
  refine ak (ok_mmin (by decide) tw580 tw581 tw109 twMmin (by decide +kernel)) ?_
  refine ak (ok_icmp_gt (off := 7) (by decide) (by decide +kernel)) ?_
  refine ak (ok_iconst (n := 1) (by decide) (by decide +kernel)) ?_
  refine ak (ok_goto (off := 4) (by decide) (by decide +kernel)) ?_
  refine ak (ok_iconst (n := 0) (by decide) (by decide +kernel)) ?_
  refine ak (ok_istore (by decide) (by decide +kernel)) ?_
  refine ak (ok_iload (by decide +kernel)) ?_
  refine ak (ok_if_eq (off := 19) (by decide) (by decide +kernel)) ?_
  refine ak (ok_iload (by decide +kernel)) ?_
  refine ak (ok_if_lt (off := 10) (by decide) (by decide +kernel)) ?_
  refine ak (ok_iload (by decide +kernel)) ?_
  refine ak (ok_iload (by decide +kernel)) ?_
  refine ak (ok_icmp_ge (off := 7) (by decide) (by decide +kernel)) ?_
  refine ak (ok_iload (by decide +kernel)) ?_
  refine ak (ok_istore (by decide) (by decide +kernel)) ?_
  refine ak (ok_iinc (n := 1) (by decide) (by decide) (by decide +kernel)) ?_
  refine ak (ok_goto (off := (-98)) (by decide) (by decide +kernel)) ?_
  refine ak (ok_iload (by decide +kernel)) ?_
  refine ak (ok_ireturn rfl (by decide +kernel)) ?_
  exact trivial
def KW_truceDay_154 (j83 : Nat → Nat → Nat → Int32 → Int32 → Int32 → Int32 → Int32 → Mem → Option (Int32 × Mem)) : Jm (Int32 × Mem) := fun t als st M =>
  if t = 83 then (match als, st with
  | [.inr (.inr (.inl (al0, w0, cl0))), .inr (.inr (.inl (al1, w1, i1))), _, _, .inl x4, .inl x5, .inl x6, .inl x7, .inl x8, _, _, _], [] => if al0 = 1 ∧ cl0 = 0 ∧ al1 = 15 then j83 w0 w1 i1 x4 x5 x6 x7 x8 M else none
  | _, _ => none) else
  none
set_option maxRecDepth 1000000 in
theorem eW_truceDay_154 (j83 : Nat → Nat → Nat → Int32 → Int32 → Int32 → Int32 → Int32 → Mem → Option (Int32 × Mem)) (w0 : Nat) (w1 : Nat) (i1 : Nat) (x4 : Int32) (x5 : Int32) (x6 : Int32) (x7 : Int32) (x8 : Int32) (x10 : Int32) (M : Mem) (u2 u3 u9 u11 : AV) : run (cW_truceDay) (KW_truceDay_154 j83) rtI 400 (seek (cW_truceDay) 154) [aR (1, w0, 0), aR (15, w1, i1), u2, u3, aI x4, aI x5, aI x6, aI x7, aI x8, u9, aI x10, u11] [] M = mW_truceDay_154b j83 w0 w1 i1 x4 x5 x6 x7 x8 x10 M := id rfl
theorem lW_truceDay_154 {E : EV} {l : Launch} {p : Program} {e : Env} {s : State} {m : MethodId} {args : Array Value} {below : List Frame} {meth : Method} {c : Code} (A : AllOK E l 3 "FreeLances$World" prog_11_method_23_code 12 (some .int) outI (cW_truceDay)) (C : Cx E p s m args meth c "FreeLances$World" prog_11_method_23_code 12 (some .int)) {r83 : Nat → Nat → Nat → Int32 → Int32 → Int32 → Int32 → Int32 → Mem → Option (Int32 × Mem)} (H83 : ∀ (w0 : Nat) (w1 : Nat) (i1 : Nat) (x4 : Int32) (x5 : Int32) (x6 : Int32) (x7 : Int32) (x8 : Int32) (M : Mem) (res : (Int32 × Mem)), r83 w0 w1 i1 x4 x5 x6 x7 x8 M = some res → ∀ (u2 u3 u9 u10 u11 : AV), Wm E p l e 3 s m args below meth c 12 83 [aR (1, w0, 0), aR (15, w1, i1), u2, u3, aI x4, aI x5, aI x6, aI x7, aI x8, u9, u10, u11] [] M (outI res).1 (outI res).2) : ∀ (w0 : Nat) (w1 : Nat) (i1 : Nat) (x4 : Int32) (x5 : Int32) (x6 : Int32) (x7 : Int32) (x8 : Int32) (x10 : Int32) (M : Mem) (res : (Int32 × Mem)), mW_truceDay_154 r83 w0 w1 i1 x4 x5 x6 x7 x8 x10 M = some res → ∀ (u2 u3 u9 u11 : AV), Wm E p l e 3 s m args below meth c 12 154 [aR (1, w0, 0), aR (15, w1, i1), u2, u3, aI x4, aI x5, aI x6, aI x7, aI x8, u9, aI x10, u11] [] M (outI res).1 (outI res).2 := by
  intro w0 w1 i1 x4 x5 x6 x7 x8 x10 M res h u2 u3 u9 u11
  refine run_at C A rfl hrtI (n := 400) ((eW_truceDay_154 r83 w0 w1 i1 x4 x5 x6 x7 x8 x10 M u2 u3 u9 u11).trans h) ?_
  intro t als st M hk
  unfold KW_truceDay_154 at hk
  split at hk
  · rename_i ht
    subst ht
    split at hk
    · split at hk
      · rename_i hc
        obtain ⟨rfl, rfl, rfl⟩ := hc
        exact H83 _ _ _ _ _ _ _ _ _ _ hk _ _ _ _ _
      · cases hk
    · cases hk
  cases hk
def KW_truceDay_83 (j83 : Nat → Nat → Nat → Int32 → Int32 → Int32 → Int32 → Int32 → Mem → Option (Int32 × Mem)) (j154 : Nat → Nat → Nat → Int32 → Int32 → Int32 → Int32 → Int32 → Int32 → Mem → Option (Int32 × Mem)) : Jm (Int32 × Mem) := fun t als st M =>
  if t = 83 then (match als, st with
  | [.inr (.inr (.inl (al0, w0, cl0))), .inr (.inr (.inl (al1, w1, i1))), _, _, .inl x4, .inl x5, .inl x6, .inl x7, .inl x8, _, _, _], [] => if al0 = 1 ∧ cl0 = 0 ∧ al1 = 15 then j83 w0 w1 i1 x4 x5 x6 x7 x8 M else none
  | _, _ => none) else
  if t = 154 then (match als, st with
  | [.inr (.inr (.inl (al0, w0, cl0))), .inr (.inr (.inl (al1, w1, i1))), _, _, .inl x4, .inl x5, .inl x6, .inl x7, .inl x8, _, .inl x10, _], [] => if al0 = 1 ∧ cl0 = 0 ∧ al1 = 15 then j154 w0 w1 i1 x4 x5 x6 x7 x8 x10 M else none
  | _, _ => none) else
  none
set_option maxRecDepth 1000000 in
theorem eW_truceDay_83 (j83 : Nat → Nat → Nat → Int32 → Int32 → Int32 → Int32 → Int32 → Mem → Option (Int32 × Mem)) (j154 : Nat → Nat → Nat → Int32 → Int32 → Int32 → Int32 → Int32 → Int32 → Mem → Option (Int32 × Mem)) (w0 : Nat) (w1 : Nat) (i1 : Nat) (x4 : Int32) (x5 : Int32) (x6 : Int32) (x7 : Int32) (x8 : Int32) (M : Mem) (u2 u3 u9 u10 u11 : AV) : run (cW_truceDay) (KW_truceDay_83 j83 j154) rtI 400 (seek (cW_truceDay) 83) [aR (1, w0, 0), aR (15, w1, i1), u2, u3, aI x4, aI x5, aI x6, aI x7, aI x8, u9, u10, u11] [] M = mW_truceDay_83b j83 j154 w0 w1 i1 x4 x5 x6 x7 x8 M := id rfl
theorem lW_truceDay_83 {E : EV} {l : Launch} {p : Program} {e : Env} {s : State} {m : MethodId} {args : Array Value} {below : List Frame} {meth : Method} {c : Code} (A : AllOK E l 3 "FreeLances$World" prog_11_method_23_code 12 (some .int) outI (cW_truceDay)) (C : Cx E p s m args meth c "FreeLances$World" prog_11_method_23_code 12 (some .int)) : ∀ (n : Nat), ∀ (w0 : Nat) (w1 : Nat) (i1 : Nat) (x4 : Int32) (x5 : Int32) (x6 : Int32) (x7 : Int32) (x8 : Int32) (M : Mem) (res : (Int32 × Mem)), mW_truceDay_83 n w0 w1 i1 x4 x5 x6 x7 x8 M = some res → ∀ (u2 u3 u9 u10 u11 : AV), Wm E p l e 3 s m args below meth c 12 83 [aR (1, w0, 0), aR (15, w1, i1), u2, u3, aI x4, aI x5, aI x6, aI x7, aI x8, u9, u10, u11] [] M (outI res).1 (outI res).2 := by
  intro n
  induction n with
  | zero => intro _ _ _ _ _ _ _ _ M res h; cases h
  | succ n ih =>
    intro w0 w1 i1 x4 x5 x6 x7 x8 M res h u2 u3 u9 u10 u11
    refine run_at C A rfl hrtI (n := 400) ((eW_truceDay_83 (mW_truceDay_83 n) (mW_truceDay_154 (mW_truceDay_83 n)) w0 w1 i1 x4 x5 x6 x7 x8 M u2 u3 u9 u10 u11).trans h) ?_
    intro t als st M hk
    unfold KW_truceDay_83 at hk
    split at hk
    · rename_i ht
      subst ht
      split at hk
      · split at hk
        · rename_i hc
          obtain ⟨rfl, rfl, rfl⟩ := hc
          exact ih _ _ _ _ _ _ _ _ _ _ hk _ _ _ _ _
        · cases hk
      · cases hk
    split at hk
    · rename_i ht
      subst ht
      split at hk
      · split at hk
        · rename_i hc
          obtain ⟨rfl, rfl, rfl⟩ := hc
          exact lW_truceDay_154 A C ih _ _ _ _ _ _ _ _ _ _ _ hk _ _ _ _
        · cases hk
      · cases hk
    cases hk
def KW_truceDay_34 (j83 : Nat → Nat → Nat → Int32 → Int32 → Int32 → Int32 → Int32 → Mem → Option (Int32 × Mem)) : Jm (Int32 × Mem) := fun t als st M =>
  if t = 83 then (match als, st with
  | [.inr (.inr (.inl (al0, w0, cl0))), .inr (.inr (.inl (al1, w1, i1))), _, _, .inl x4, .inl x5, .inl x6, .inl x7, .inl x8, _, _, _], [] => if al0 = 1 ∧ cl0 = 0 ∧ al1 = 15 then j83 w0 w1 i1 x4 x5 x6 x7 x8 M else none
  | _, _ => none) else
  none
set_option maxRecDepth 1000000 in
theorem eW_truceDay_34 (j83 : Nat → Nat → Nat → Int32 → Int32 → Int32 → Int32 → Int32 → Mem → Option (Int32 × Mem)) (w0 : Nat) (w1 : Nat) (i1 : Nat) (w2 : Nat) (i2 : Nat) (x3 : Int32) (M : Mem) (u4 u5 u6 u7 u8 u9 u10 u11 : AV) : run (cW_truceDay) (KW_truceDay_34 j83) rtI 400 (seek (cW_truceDay) 34) [aR (1, w0, 0), aR (15, w1, i1), aR (15, w2, i2), aI x3, u4, u5, u6, u7, u8, u9, u10, u11] [] M = mW_truceDay_34b j83 w0 w1 i1 w2 i2 x3 M := id rfl
theorem lW_truceDay_34 {E : EV} {l : Launch} {p : Program} {e : Env} {s : State} {m : MethodId} {args : Array Value} {below : List Frame} {meth : Method} {c : Code} (A : AllOK E l 3 "FreeLances$World" prog_11_method_23_code 12 (some .int) outI (cW_truceDay)) (C : Cx E p s m args meth c "FreeLances$World" prog_11_method_23_code 12 (some .int)) : ∀ (w0 : Nat) (w1 : Nat) (i1 : Nat) (w2 : Nat) (i2 : Nat) (x3 : Int32) (M : Mem) (res : (Int32 × Mem)), mW_truceDay_34 w0 w1 i1 w2 i2 x3 M = some res → ∀ (u4 u5 u6 u7 u8 u9 u10 u11 : AV), Wm E p l e 3 s m args below meth c 12 34 [aR (1, w0, 0), aR (15, w1, i1), aR (15, w2, i2), aI x3, u4, u5, u6, u7, u8, u9, u10, u11] [] M (outI res).1 (outI res).2 := by
  intro w0 w1 i1 w2 i2 x3 M res h u4 u5 u6 u7 u8 u9 u10 u11
  refine run_at C A rfl hrtI (n := 400) ((eW_truceDay_34 (mW_truceDay_83 fuel) w0 w1 i1 w2 i2 x3 M u4 u5 u6 u7 u8 u9 u10 u11).trans h) ?_
  intro t als st M hk
  unfold KW_truceDay_34 at hk
  split at hk
  · rename_i ht
    subst ht
    split at hk
    · split at hk
      · rename_i hc
        obtain ⟨rfl, rfl, rfl⟩ := hc
        exact lW_truceDay_83 A C _ _ _ _ _ _ _ _ _ _ _ hk _ _ _ _ _
      · cases hk
    · cases hk
  cases hk
def KW_truceDay (j34 : Nat → Nat → Nat → Nat → Nat → Int32 → Mem → Option (Int32 × Mem)) : Jm (Int32 × Mem) := fun t als st M =>
  if t = 34 then (match als, st with
  | [.inr (.inr (.inl (al0, w0, cl0))), .inr (.inr (.inl (al1, w1, i1))), .inr (.inr (.inl (al2, w2, i2))), .inl x3, _, _, _, _, _, _, _, _], [] => if al0 = 1 ∧ cl0 = 0 ∧ al1 = 15 ∧ al2 = 15 then j34 w0 w1 i1 w2 i2 x3 M else none
  | _, _ => none) else
  none
set_option maxRecDepth 1000000 in
theorem eW_truceDay (j34 : Nat → Nat → Nat → Nat → Nat → Int32 → Mem → Option (Int32 × Mem)) (w0 : Nat) (w1 : Nat) (i1 : Nat) (w2 : Nat) (i2 : Nat) (M : Mem) : run (cW_truceDay) (KW_truceDay j34) rtI 400 (seek (cW_truceDay) 0) [aR (1, w0, 0), aR (15, w1, i1), aR (15, w2, i2), aU, aU, aU, aU, aU, aU, aU, aU, aU] [] M = mW_truceDayb j34 w0 w1 i1 w2 i2 M := id rfl
theorem lW_truceDay {E : EV} {l : Launch} {p : Program} {e : Env} {s : State} {m : MethodId} {args : Array Value} {below : List Frame} {meth : Method} {c : Code} (A : AllOK E l 3 "FreeLances$World" prog_11_method_23_code 12 (some .int) outI (cW_truceDay)) (C : Cx E p s m args meth c "FreeLances$World" prog_11_method_23_code 12 (some .int)) : ∀ (w0 : Nat) (w1 : Nat) (i1 : Nat) (w2 : Nat) (i2 : Nat) (M : Mem) (res : (Int32 × Mem)), mW_truceDay w0 w1 i1 w2 i2 M = some res → Wm E p l e 3 s m args below meth c 12 0 [aR (1, w0, 0), aR (15, w1, i1), aR (15, w2, i2), aU, aU, aU, aU, aU, aU, aU, aU, aU] [] M (outI res).1 (outI res).2 := by
  intro w0 w1 i1 w2 i2 M res h
  refine run_at C A rfl hrtI (n := 400) ((eW_truceDay mW_truceDay_34 w0 w1 i1 w2 i2 M).trans h) ?_
  intro t als st M hk
  unfold KW_truceDay at hk
  split at hk
  · rename_i ht
    subst ht
    split at hk
    · split at hk
      · rename_i hc
        obtain ⟨rfl, rfl, rfl, rfl⟩ := hc
        exact lW_truceDay_34 A C _ _ _ _ _ _ _ _ hk _ _ _ _ _ _ _ _
      · cases hk
    · cases hk
  cases hk
def dW_truceDay {β : Type} : Den β := fun as M k => match as with
  | [.inr (.inr (.inl (al0, w0, cl0))), .inr (.inr (.inl (al1, w1, i1))), .inr (.inr (.inl (al2, w2, i2)))] => if al0 = 1 ∧ cl0 = 0 ∧ al1 = 15 ∧ al2 = 15 then (mW_truceDay w0 w1 i1 w2 i2 M).bind fun q => k (aI q.1) q.2 else none
  | _ => none
theorem wW_truceDay {E : EV} (hsd : E.2.2.2 = 0) (l : Launch) (w0 : Nat) (w1 : Nat) (i1 : Nat) (w2 : Nat) (i2 : Nat) (M : Mem) (q : (Int32 × Mem)) (hq : mW_truceDay w0 w1 i1 w2 i2 M = some q) : Con E l 3 yW_truceDay prog_11_method_23_code 12 (some .int) [aR (1, w0, 0), aR (15, w1, i1), aR (15, w2, i2)] M (outI q).1 (outI q).2 := by
  refine con_of iW_truceDay (Nat.le_of_ble_eq_true rfl) ?_
  intro p e s m args below meth c C
  exact lW_truceDay (oW_truceDay hsd l) C w0 w1 i1 w2 i2 M _ hq
theorem kW_truceDay {E : EV} (hsd : E.2.2.2 = 0) (l : Launch) {β : Type} : DenOK E l 3 yW_truceDay prog_11_method_23_code 12 (some .int) true (dW_truceDay (β := β)) := by
  intro as M k res h
  unfold dW_truceDay at h
  split at h
  ·
    split at h
    · rename_i hc
      obtain ⟨rfl, rfl, rfl, rfl⟩ := hc
      obtain ⟨q, hq, hk⟩ := Option.bind_eq_some_iff.mp h
      exact ⟨aI q.1, q.2, hk, rfl, wW_truceDay hsd l _ _ _ _ _ M q hq⟩
    · cases h
  · cases h
theorem qW_truceDay {β : Type} : RecOK 1 (dW_truceDay (β := β)) := by
  intro as M k res h
  unfold dW_truceDay at h
  split at h
  ·
    split at h
    · rename_i hc
      obtain ⟨rfl, rfl, rfl, rfl⟩ := hc
      exact ⟨_, _, _, rfl⟩
    · cases h
  · cases h
/-! ===== FreeLances$World.clashOf(LFreeLances$Bond;LFreeLances$Bond;)I ===== -/
abbrev yW_clashOf : MethodName := ⟨"FreeLances$World", "clashOf", "(LFreeLances$Bond;LFreeLances$Bond;)I"⟩
theorem iW_clashOf : MI yW_clashOf prog_11_method_22_code 4 (some .int) 2 := ⟨tw894, tw98, ⟨by decide, by decide⟩, by decide +kernel, by decide, by decide⟩
def cW_clashOf : List (Ent (Int32 × Mem)) := [(false, 0, 1, sLdA 1),
  (false, 1, 3, sGet 15 (fun w i M => aI (M 15 w i 6))),
  (false, 4, 3, sIfGe 9),
  (false, 7, 1, sC (-1)),
  (false, 8, 1, sRetI),
  (false, 9, 1, sLdA 2),
  (false, 10, 3, sGet 15 (fun w i M => aI (M 15 w i 0))),
  (false, 13, 1, sC 4),
  (false, 14, 3, sCmpNe 24),
  (false, 17, 1, sLdA 0),
  (false, 18, 1, sLdA 1),
  (false, 19, 1, sLdA 2),
  (false, 20, 3, sInv 3 true dW_truceDay),
  (false, 23, 1, sRetI),
  (false, 24, 1, sLdA 2),
  (false, 25, 3, sGet 15 (fun w i M => aI (M 15 w i 0))),
  (false, 28, 2, sC 6),
  (false, 30, 3, sCmpNe 59),
  (false, 33, 1, sLdA 2),
  (false, 34, 3, sGet 15 (fun w i M => aI (M 15 w i 1))),
  (false, 37, 1, sLdA 1),
  (false, 38, 3, sGet 15 (fun w i M => aI (M 15 w i 1))),
  (false, 41, 3, sCmpNe 59),
  (false, 44, 1, sLdA 2),
  (false, 45, 3, sGet 15 (fun w i M => aI (M 15 w i 5))),
  (false, 48, 1, sLdA 1),
  (false, 49, 3, sGet 15 (fun w i M => aI (M 15 w i 6))),
  (false, 52, 3, sCmpNe 59),
  (false, 55, 1, sC 1),
  (false, 56, 3, sGoto 60),
  (false, 59, 1, sC 0),
  (false, 60, 1, sStI 3),
  (false, 61, 1, sLdI 3),
  (false, 62, 3, sIfEq 79),
  (false, 65, 1, sLdA 1),
  (false, 66, 3, sGet 15 (fun w i M => aI (M 15 w i 2))),
  (false, 69, 1, sLdA 2),
  (false, 70, 3, sGet 15 (fun w i M => aI (M 15 w i 2))),
  (false, 73, 3, sMax),
  (false, 76, 3, sGoto 80),
  (false, 79, 1, sC (-1)),
  (false, 80, 1, sRetI)]
theorem oW_clashOf {E : EV} (hsd : E.2.2.2 = 0) (l : Launch) : AllOK E l 4 "FreeLances$World" prog_11_method_22_code 4 (some .int) outI (cW_clashOf) := by
  refine ak (ok_aload_n (k := 1) rfl (by decide +kernel)) ?_
  refine ak (ok_get (k := 6) ck0 kd15 (by decide) (fun _ _ _ => rfl) (fun _ _ _ _ _ => trivial) tw344 (by decide +kernel)) ?_
  refine ak (ok_if_ge (off := 5) (by decide) (by decide +kernel)) ?_
  refine ak (ok_iconst (n := (-1)) (by decide) (by decide +kernel)) ?_
  refine ak (ok_ireturn rfl (by decide +kernel)) ?_
  refine ak (ok_aload_n (k := 2) rfl (by decide +kernel)) ?_
  refine ak (ok_get (k := 0) ck0 kd15 (by decide) (fun _ _ _ => rfl) (fun _ _ _ _ _ => trivial) tw325 (by decide +kernel)) ?_
  refine ak (ok_iconst (n := 4) (by decide) (by decide +kernel)) ?_
  refine ak (ok_icmp_ne (off := 10) (by decide) (by decide +kernel)) ?_
  refine ak (ok_aload_n (k := 0) rfl (by decide +kernel)) ?_
  refine ak (ok_aload_n (k := 1) rfl (by decide +kernel)) ?_
  refine ak (ok_aload_n (k := 2) rfl (by decide +kernel)) ?_
  refine ak (ok_invV (r := 1) (kW_truceDay hsd l) qW_truceDay ck9 kd1 iW_truceDay tw897 tw20 (by decide) tw895 (by decide +kernel)) ?_
  refine ak (ok_ireturn rfl (by decide +kernel)) ?_
  refine ak (ok_aload_n (k := 2) rfl (by decide +kernel)) ?_
  refine ak (ok_get (k := 0) ck0 kd15 (by decide) (fun _ _ _ => rfl) (fun _ _ _ _ _ => trivial) tw325 (by decide +kernel)) ?_
  refine ak (ok_bipush (n := 6) (by decide) (by decide +kernel)) ?_
  refine ak (ok_icmp_ne (off := 29) (by decide) (by decide +kernel)) ?_
  refine ak (ok_aload_n (k := 2) rfl (by decide +kernel)) ?_
  refine ak (ok_get (k := 1) ck0 kd15 (by decide) (fun _ _ _ => rfl) (fun _ _ _ _ _ => trivial) tw328 (by decide +kernel)) ?_
  refine ak (ok_aload_n (k := 1) rfl (by decide +kernel)) ?_
  refine ak (ok_get (k := 1) ck0 kd15 (by decide) (fun _ _ _ => rfl) (fun _ _ _ _ _ => trivial) tw328 (by decide +kernel)) ?_
  refine ak (ok_icmp_ne (off := 18) (by decide) (by decide +kernel)) ?_
  refine ak (ok_aload_n (k := 2) rfl (by decide +kernel)) ?_
  refine ak (ok_get (k := 5) ck0 kd15 (by decide) (fun _ _ _ => rfl) (fun _ _ _ _ _ => trivial) tw340 (by decide +kernel)) ?_
  refine ak (ok_aload_n (k := 1) rfl (by decide +kernel)) ?_
  refine ak (ok_get (k := 6) ck0 kd15 (by decide) (fun _ _ _ => rfl) (fun _ _ _ _ _ => trivial) tw344 (by decide +kernel)) ?_
  refine ak (ok_icmp_ne (off := 7) (by decide) (by decide +kernel)) ?_
  refine ak (ok_iconst (n := 1) (by decide) (by decide +kernel)) ?_
  refine ak (ok_goto (off := 4) (by decide) (by decide +kernel)) ?_
  refine ak (ok_iconst (n := 0) (by decide) (by decide +kernel)) ?_
  refine ak (ok_istore_n (k := 3) rfl (by decide) (by decide +kernel)) ?_
  refine ak (ok_iload_n (k := 3) rfl (by decide +kernel)) ?_
  refine ak (ok_if_eq (off := 17) (by decide) (by decide +kernel)) ?_
  refine ak (ok_aload_n (k := 1) rfl (by decide +kernel)) ?_
  refine ak (ok_get (k := 2) ck0 kd15 (by decide) (fun _ _ _ => rfl) (fun _ _ _ _ _ => trivial) tw332 (by decide +kernel)) ?_
  refine ak (ok_aload_n (k := 2) rfl (by decide +kernel)) ?_
  refine ak (ok_get (k := 2) ck0 kd15 (by decide) (fun _ _ _ => rfl) (fun _ _ _ _ _ => trivial) tw332 (by decide +kernel)) ?_
  refine ak (ok_mmax (by decide) tw887 tw888 tw109 twMmax (by decide +kernel)) ?_
  refine ak (ok_goto (off := 4) (by decide) (by decide +kernel)) ?_
  refine ak (ok_iconst (n := (-1)) (by decide) (by decide +kernel)) ?_
  refine ak (ok_ireturn rfl (by decide +kernel)) ?_
  exact trivial
set_option maxRecDepth 1000000 in
theorem eW_clashOf (w0 : Nat) (w1 : Nat) (i1 : Nat) (w2 : Nat) (i2 : Nat) (M : Mem) : run (cW_clashOf) (fun _ _ _ _ => none) rtI 400 (seek (cW_clashOf) 0) [aR (1, w0, 0), aR (15, w1, i1), aR (15, w2, i2), aU] [] M = mW_clashOf w0 w1 i1 w2 i2 M := id rfl
theorem lW_clashOf {E : EV} {l : Launch} {p : Program} {e : Env} {s : State} {m : MethodId} {args : Array Value} {below : List Frame} {meth : Method} {c : Code} (A : AllOK E l 4 "FreeLances$World" prog_11_method_22_code 4 (some .int) outI (cW_clashOf)) (C : Cx E p s m args meth c "FreeLances$World" prog_11_method_22_code 4 (some .int)) : ∀ (w0 : Nat) (w1 : Nat) (i1 : Nat) (w2 : Nat) (i2 : Nat) (M : Mem) (res : (Int32 × Mem)), mW_clashOf w0 w1 i1 w2 i2 M = some res → Wm E p l e 4 s m args below meth c 4 0 [aR (1, w0, 0), aR (15, w1, i1), aR (15, w2, i2), aU] [] M (outI res).1 (outI res).2 := by
  intro w0 w1 i1 w2 i2 M res h
  refine run_at C A rfl hrtI (n := 400) ((eW_clashOf w0 w1 i1 w2 i2 M).trans h) ?_
  intro t als st M hk; cases hk
def dW_clashOf {β : Type} : Den β := fun as M k => match as with
  | [.inr (.inr (.inl (al0, w0, cl0))), .inr (.inr (.inl (al1, w1, i1))), .inr (.inr (.inl (al2, w2, i2)))] => if al0 = 1 ∧ cl0 = 0 ∧ al1 = 15 ∧ al2 = 15 then (mW_clashOf w0 w1 i1 w2 i2 M).bind fun q => k (aI q.1) q.2 else none
  | _ => none
theorem wW_clashOf {E : EV} (hsd : E.2.2.2 = 0) (l : Launch) (w0 : Nat) (w1 : Nat) (i1 : Nat) (w2 : Nat) (i2 : Nat) (M : Mem) (q : (Int32 × Mem)) (hq : mW_clashOf w0 w1 i1 w2 i2 M = some q) : Con E l 4 yW_clashOf prog_11_method_22_code 4 (some .int) [aR (1, w0, 0), aR (15, w1, i1), aR (15, w2, i2)] M (outI q).1 (outI q).2 := by
  refine con_of iW_clashOf (Nat.le_of_ble_eq_true rfl) ?_
  intro p e s m args below meth c C
  exact lW_clashOf (oW_clashOf hsd l) C w0 w1 i1 w2 i2 M _ hq
theorem kW_clashOf {E : EV} (hsd : E.2.2.2 = 0) (l : Launch) {β : Type} : DenOK E l 4 yW_clashOf prog_11_method_22_code 4 (some .int) true (dW_clashOf (β := β)) := by
  intro as M k res h
  unfold dW_clashOf at h
  split at h
  ·
    split at h
    · rename_i hc
      obtain ⟨rfl, rfl, rfl, rfl⟩ := hc
      obtain ⟨q, hq, hk⟩ := Option.bind_eq_some_iff.mp h
      exact ⟨aI q.1, q.2, hk, rfl, wW_clashOf hsd l _ _ _ _ _ M q hq⟩
    · cases h
  · cases h
theorem qW_clashOf {β : Type} : RecOK 1 (dW_clashOf (β := β)) := by
  intro as M k res h
  unfold dW_clashOf at h
  split at h
  ·
    split at h
    · rename_i hc
      obtain ⟨rfl, rfl, rfl, rfl⟩ := hc
      exact ⟨_, _, _, rfl⟩
    · cases h
  · cases h
/-! ===== FreeLances$World.clashDay(LFreeLances$Bond;LFreeLances$Bond;)I ===== -/
abbrev yW_clashDay : MethodName := ⟨"FreeLances$World", "clashDay", "(LFreeLances$Bond;LFreeLances$Bond;)I"⟩
theorem iW_clashDay : MI yW_clashDay prog_11_method_21_code 4 (some .int) 2 := ⟨tw886, tw98, ⟨by decide, by decide⟩, by decide +kernel, by decide, by decide⟩
def cW_clashDay : List (Ent (Int32 × Mem)) := [(false, 0, 1, sLdA 1),
  (false, 1, 3, sGet 15 (fun w i M => aI (M 15 w i 2))),
  (false, 4, 1, sLdA 2),
  (false, 5, 3, sGet 15 (fun w i M => aI (M 15 w i 2))),
  (false, 8, 3, sMax),
  (false, 11, 1, sStI 3),
  (false, 12, 1, sLdI 3),
  (false, 13, 3, sIfLt 31),
  (false, 16, 1, sLdI 3),
  (false, 17, 1, sLdA 1),
  (false, 18, 3, sGet 15 (fun w i M => aI (M 15 w i 3))),
  (false, 21, 1, sLdA 2),
  (false, 22, 3, sGet 15 (fun w i M => aI (M 15 w i 3))),
  (false, 25, 3, sMin),
  (false, 28, 3, sCmpLe 33),
  (false, 31, 1, sC (-1)),
  (false, 32, 1, sRetI),
  (false, 33, 1, sLdA 1),
  (false, 34, 3, sInv 1 true dB_isContract),
  (false, 37, 3, sIfEq 75),
  (false, 40, 1, sLdA 2),
  (false, 41, 3, sInv 1 true dB_isContract),
  (false, 44, 3, sIfEq 75),
  (false, 47, 1, sLdA 1),
  (false, 48, 3, sGet 15 (fun w i M => aI (M 15 w i 1))),
  (false, 51, 1, sLdA 2),
  (false, 52, 3, sGet 15 (fun w i M => aI (M 15 w i 1))),
  (false, 55, 3, sCmpNe 73),
  (false, 58, 1, sLdA 1),
  (false, 59, 3, sGet 15 (fun w i M => aI (M 15 w i 5))),
  (false, 62, 1, sLdA 2),
  (false, 63, 3, sGet 15 (fun w i M => aI (M 15 w i 5))),
  (false, 66, 3, sCmpEq 73),
  (false, 69, 1, sLdI 3),
  (false, 70, 3, sGoto 74),
  (false, 73, 1, sC (-1)),
  (false, 74, 1, sRetI),
  (false, 75, 1, sLdA 1),
  (false, 76, 3, sInv 1 true dB_isContract),
  (false, 79, 3, sIfEq 89),
  (false, 82, 1, sLdA 0),
  (false, 83, 1, sLdA 1),
  (false, 84, 1, sLdA 2),
  (false, 85, 3, sInv 3 true dW_clashOf),
  (false, 88, 1, sRetI),
  (false, 89, 1, sLdA 2),
  (false, 90, 3, sInv 1 true dB_isContract),
  (false, 93, 3, sIfEq 105),
  (false, 96, 1, sLdA 0),
  (false, 97, 1, sLdA 2),
  (false, 98, 1, sLdA 1),
  (false, 99, 3, sInv 3 true dW_clashOf),
  (false, 102, 3, sGoto 106),
  (false, 105, 1, sC (-1)),
  (false, 106, 1, sRetI)]
theorem oW_clashDay {E : EV} (hsd : E.2.2.2 = 0) (l : Launch) : AllOK E l 5 "FreeLances$World" prog_11_method_21_code 4 (some .int) outI (cW_clashDay) := by
  refine ak (ok_aload_n (k := 1) rfl (by decide +kernel)) ?_
  refine ak (ok_get (k := 2) ck0 kd15 (by decide) (fun _ _ _ => rfl) (fun _ _ _ _ _ => trivial) tw332 (by decide +kernel)) ?_
  refine ak (ok_aload_n (k := 2) rfl (by decide +kernel)) ?_
  refine ak (ok_get (k := 2) ck0 kd15 (by decide) (fun _ _ _ => rfl) (fun _ _ _ _ _ => trivial) tw332 (by decide +kernel)) ?_
  refine ak (ok_mmax (by decide) tw887 tw888 tw109 twMmax (by decide +kernel)) ?_
  refine ak (ok_istore_n (k := 3) rfl (by decide) (by decide +kernel)) ?_
  refine ak (ok_iload_n (k := 3) rfl (by decide +kernel)) ?_
  refine ak (ok_if_lt (off := 18) (by decide) (by decide +kernel)) ?_
  refine ak (ok_iload_n (k := 3) rfl (by decide +kernel)) ?_
  refine ak (ok_aload_n (k := 1) rfl (by decide +kernel)) ?_
  refine ak (ok_get (k := 3) ck0 kd15 (by decide) (fun _ _ _ => rfl) (fun _ _ _ _ _ => trivial) tw335 (by decide +kernel)) ?_
  refine ak (ok_aload_n (k := 2) rfl (by decide +kernel)) ?_
  refine ak (ok_get (k := 3) ck0 kd15 (by decide) (fun _ _ _ => rfl) (fun _ _ _ _ _ => trivial) tw335 (by decide +kernel)) ?_
  refine ak (ok_mmin (by decide) tw580 tw581 tw109 twMmin (by decide +kernel)) ?_
  refine ak (ok_icmp_le (off := 5) (by decide) (by decide +kernel)) ?_
  refine ak (ok_iconst (n := (-1)) (by decide) (by decide +kernel)) ?_
  refine ak (ok_ireturn rfl (by decide +kernel)) ?_
  refine ak (ok_aload_n (k := 1) rfl (by decide +kernel)) ?_
  refine ak (ok_invV (r := 15) (kB_isContract hsd l) qB_isContract ck0 kd15 iB_isContract tw643 tw644 (by decide) tw890 (by decide +kernel)) ?_
  refine ak (ok_if_eq (off := 38) (by decide) (by decide +kernel)) ?_
  refine ak (ok_aload_n (k := 2) rfl (by decide +kernel)) ?_
  refine ak (ok_invV (r := 15) (kB_isContract hsd l) qB_isContract ck0 kd15 iB_isContract tw643 tw644 (by decide) tw890 (by decide +kernel)) ?_
  refine ak (ok_if_eq (off := 31) (by decide) (by decide +kernel)) ?_
  refine ak (ok_aload_n (k := 1) rfl (by decide +kernel)) ?_
  refine ak (ok_get (k := 1) ck0 kd15 (by decide) (fun _ _ _ => rfl) (fun _ _ _ _ _ => trivial) tw328 (by decide +kernel)) ?_
  refine ak (ok_aload_n (k := 2) rfl (by decide +kernel)) ?_
  refine ak (ok_get (k := 1) ck0 kd15 (by decide) (fun _ _ _ => rfl) (fun _ _ _ _ _ => trivial) tw328 (by decide +kernel)) ?_
  refine ak (ok_icmp_ne (off := 18) (by decide) (by decide +kernel)) ?_
  refine ak (ok_aload_n (k := 1) rfl (by decide +kernel)) ?_
  refine ak (ok_get (k := 5) ck0 kd15 (by decide) (fun _ _ _ => rfl) (fun _ _ _ _ _ => trivial) tw340 (by decide +kernel)) ?_
  refine ak (ok_aload_n (k := 2) rfl (by decide +kernel)) ?_
  refine ak (ok_get (k := 5) ck0 kd15 (by decide) (fun _ _ _ => rfl) (fun _ _ _ _ _ => trivial) tw340 (by decide +kernel)) ?_
  refine ak (ok_icmp_eq (off := 7) (by decide) (by decide +kernel)) ?_
  refine ak (ok_iload_n (k := 3) rfl (by decide +kernel)) ?_
  refine ak (ok_goto (off := 4) (by decide) (by decide +kernel)) ?_
  refine ak (ok_iconst (n := (-1)) (by decide) (by decide +kernel)) ?_
  refine ak (ok_ireturn rfl (by decide +kernel)) ?_
  refine ak (ok_aload_n (k := 1) rfl (by decide +kernel)) ?_
  refine ak (ok_invV (r := 15) (kB_isContract hsd l) qB_isContract ck0 kd15 iB_isContract tw643 tw644 (by decide) tw890 (by decide +kernel)) ?_
  refine ak (ok_if_eq (off := 10) (by decide) (by decide +kernel)) ?_
  refine ak (ok_aload_n (k := 0) rfl (by decide +kernel)) ?_
  refine ak (ok_aload_n (k := 1) rfl (by decide +kernel)) ?_
  refine ak (ok_aload_n (k := 2) rfl (by decide +kernel)) ?_
  refine ak (ok_invV (r := 1) (kW_clashOf hsd l) qW_clashOf ck9 kd1 iW_clashOf tw893 tw19 (by decide) tw891 (by decide +kernel)) ?_
  refine ak (ok_ireturn rfl (by decide +kernel)) ?_
  refine ak (ok_aload_n (k := 2) rfl (by decide +kernel)) ?_
  refine ak (ok_invV (r := 15) (kB_isContract hsd l) qB_isContract ck0 kd15 iB_isContract tw643 tw644 (by decide) tw890 (by decide +kernel)) ?_
  refine ak (ok_if_eq (off := 12) (by decide) (by decide +kernel)) ?_
  refine ak (ok_aload_n (k := 0) rfl (by decide +kernel)) ?_
  refine ak (ok_aload_n (k := 2) rfl (by decide +kernel)) ?_
  refine ak (ok_aload_n (k := 1) rfl (by decide +kernel)) ?_
  refine ak (ok_invV (r := 1) (kW_clashOf hsd l) qW_clashOf ck9 kd1 iW_clashOf tw893 tw19 (by decide) tw891 (by decide +kernel)) ?_
  refine ak (ok_goto (off := 4) (by decide) (by decide +kernel)) ?_
  refine ak (ok_iconst (n := (-1)) (by decide) (by decide +kernel)) ?_
  refine ak (ok_ireturn rfl (by decide +kernel)) ?_
  exact trivial
set_option maxRecDepth 1000000 in
theorem eW_clashDay (w0 : Nat) (w1 : Nat) (i1 : Nat) (w2 : Nat) (i2 : Nat) (M : Mem) : run (cW_clashDay) (fun _ _ _ _ => none) rtI 400 (seek (cW_clashDay) 0) [aR (1, w0, 0), aR (15, w1, i1), aR (15, w2, i2), aU] [] M = mW_clashDay w0 w1 i1 w2 i2 M := id rfl
theorem lW_clashDay {E : EV} {l : Launch} {p : Program} {e : Env} {s : State} {m : MethodId} {args : Array Value} {below : List Frame} {meth : Method} {c : Code} (A : AllOK E l 5 "FreeLances$World" prog_11_method_21_code 4 (some .int) outI (cW_clashDay)) (C : Cx E p s m args meth c "FreeLances$World" prog_11_method_21_code 4 (some .int)) : ∀ (w0 : Nat) (w1 : Nat) (i1 : Nat) (w2 : Nat) (i2 : Nat) (M : Mem) (res : (Int32 × Mem)), mW_clashDay w0 w1 i1 w2 i2 M = some res → Wm E p l e 5 s m args below meth c 4 0 [aR (1, w0, 0), aR (15, w1, i1), aR (15, w2, i2), aU] [] M (outI res).1 (outI res).2 := by
  intro w0 w1 i1 w2 i2 M res h
  refine run_at C A rfl hrtI (n := 400) ((eW_clashDay w0 w1 i1 w2 i2 M).trans h) ?_
  intro t als st M hk; cases hk
def dW_clashDay {β : Type} : Den β := fun as M k => match as with
  | [.inr (.inr (.inl (al0, w0, cl0))), .inr (.inr (.inl (al1, w1, i1))), .inr (.inr (.inl (al2, w2, i2)))] => if al0 = 1 ∧ cl0 = 0 ∧ al1 = 15 ∧ al2 = 15 then (mW_clashDay w0 w1 i1 w2 i2 M).bind fun q => k (aI q.1) q.2 else none
  | _ => none
theorem wW_clashDay {E : EV} (hsd : E.2.2.2 = 0) (l : Launch) (w0 : Nat) (w1 : Nat) (i1 : Nat) (w2 : Nat) (i2 : Nat) (M : Mem) (q : (Int32 × Mem)) (hq : mW_clashDay w0 w1 i1 w2 i2 M = some q) : Con E l 5 yW_clashDay prog_11_method_21_code 4 (some .int) [aR (1, w0, 0), aR (15, w1, i1), aR (15, w2, i2)] M (outI q).1 (outI q).2 := by
  refine con_of iW_clashDay (Nat.le_of_ble_eq_true rfl) ?_
  intro p e s m args below meth c C
  exact lW_clashDay (oW_clashDay hsd l) C w0 w1 i1 w2 i2 M _ hq
theorem kW_clashDay {E : EV} (hsd : E.2.2.2 = 0) (l : Launch) {β : Type} : DenOK E l 5 yW_clashDay prog_11_method_21_code 4 (some .int) true (dW_clashDay (β := β)) := by
  intro as M k res h
  unfold dW_clashDay at h
  split at h
  ·
    split at h
    · rename_i hc
      obtain ⟨rfl, rfl, rfl, rfl⟩ := hc
      obtain ⟨q, hq, hk⟩ := Option.bind_eq_some_iff.mp h
      exact ⟨aI q.1, q.2, hk, rfl, wW_clashDay hsd l _ _ _ _ _ M q hq⟩
    · cases h
  · cases h
theorem qW_clashDay {β : Type} : RecOK 1 (dW_clashDay (β := β)) := by
  intro as M k res h
  unfold dW_clashDay at h
  split at h
  ·
    split at h
    · rename_i hc
      obtain ⟨rfl, rfl, rfl, rfl⟩ := hc
      exact ⟨_, _, _, rfl⟩
    · cases h
  · cases h
/-! ===== FreeLances.clash(II)I ===== -/
abbrev yF_clash : MethodName := ⟨"FreeLances", "clash", "(II)I"⟩
theorem iF_clash : MI yF_clash prog_1_method_31_code 7 (some .int) 2 := ⟨tw882, tw97, ⟨by decide, by decide⟩, by decide +kernel, by decide, by decide⟩
def cF_clash : List (Ent (Int32 × Mem)) := [(false, 0, 1, sLdI 1),
  (false, 1, 3, sIfLt 13),
  (false, 4, 1, sLdI 2),
  (false, 5, 1, sC 0),
  (false, 6, 1, sC 2),
  (false, 7, 3, sInv 3 true dF_within),
  (false, 10, 3, sIfNe 19),
  (false, 13, 1, sLdA 0),
  (false, 14, 1, sC 1),
  (false, 15, 3, sInv 2 true dF_finding),
  (false, 18, 1, sRetI),
  (false, 19, 1, sLdI 1),
  (false, 20, 1, sStI 3),
  (false, 21, 1, sC 0),
  (false, 22, 2, sStI 4),
  (true, 24, 2, sLdI 4),
  (false, 26, 1, sLdA 0),
  (false, 27, 3, sGet 0 (fun w i M => aR (1, 0, 0))),
  (false, 30, 3, sGet 1 (fun w i M => aI (M 1 w i 12))),
  (false, 33, 3, sCmpGe 129),
  (false, 36, 2, sLdI 4),
  (false, 38, 1, sC 1),
  (false, 39, 1, sBin (fun x y => x + y)),
  (false, 40, 2, sStI 5),
  (true, 42, 2, sLdI 5),
  (false, 44, 1, sLdA 0),
  (false, 45, 3, sGet 0 (fun w i M => aR (1, 0, 0))),
  (false, 48, 3, sGet 1 (fun w i M => aI (M 1 w i 12))),
  (false, 51, 3, sCmpGe 123),
  (false, 54, 1, sLdA 0),
  (false, 55, 3, sGet 0 (fun w i M => aR (1, 0, 0))),
  (false, 58, 1, sLdA 0),
  (false, 59, 3, sGet 0 (fun w i M => aR (1, 0, 0))),
  (false, 62, 3, sGet 1 (fun w i M => aR (14, w, 0))),
  (false, 65, 2, sLdI 4),
  (false, 67, 1, sAald 14 24 15),
  (false, 68, 1, sLdA 0),
  (false, 69, 3, sGet 0 (fun w i M => aR (1, 0, 0))),
  (false, 72, 3, sGet 1 (fun w i M => aR (14, w, 0))),
  (false, 75, 2, sLdI 5),
  (false, 77, 1, sAald 14 24 15),
  (false, 78, 3, sInv 3 true dW_clashDay),
  (false, 81, 2, sStI 6),
  (false, 83, 2, sLdI 6),
  (false, 85, 3, sIfLt 117),
  (false, 88, 1, sLdI 3),
  (false, 89, 3, sInc 3 (-1)),
  (false, 92, 3, sIfNe 117),
  (false, 95, 1, sLdI 2),
  (false, 96, 3, sIfNe 104),
  (false, 99, 2, sLdI 4),
  (false, 101, 3, sGoto 116),
  (false, 104, 1, sLdI 2),
  (false, 105, 1, sC 1),
  (false, 106, 3, sCmpNe 114),
  (false, 109, 2, sLdI 5),
  (false, 111, 3, sGoto 116),
  (false, 114, 2, sLdI 6),
  (false, 116, 1, sRetI),
  (false, 117, 3, sInc 5 1),
  (false, 120, 3, sGoto 42),
  (false, 123, 3, sInc 4 1),
  (false, 126, 3, sGoto 24),
  (false, 129, 1, sLdA 0),
  (false, 130, 1, sC 2),
  (false, 131, 3, sInv 2 true dF_finding),
  (false, 134, 1, sRetI)]
theorem oF_clash {E : EV} (hsd : E.2.2.2 = 0) (l : Launch) : AllOK E l 6 "FreeLances" prog_1_method_31_code 7 (some .int) outI (cF_clash) := by
  refine ak (ok_iload_n (k := 1) rfl (by decide +kernel)) ?_
  refine ak (ok_if_lt (off := 12) (by decide) (by decide +kernel)) ?_
  refine ak (ok_iload_n (k := 2) rfl (by decide +kernel)) ?_
  refine ak (ok_iconst (n := 0) (by decide) (by decide +kernel)) ?_
  refine ak (ok_iconst (n := 2) (by decide) (by decide +kernel)) ?_
  refine ak (ok_invS (kF_within hsd l) iF_within tw553 (by decide) tw552 (by decide +kernel)) ?_
  refine ak (ok_if_ne (off := 9) (by decide) (by decide +kernel)) ?_
  refine ak (ok_aload_n (k := 0) rfl (by decide +kernel)) ?_
  refine ak (ok_iconst (n := 1) (by decide) (by decide +kernel)) ?_
  refine ak (ok_invV (r := 0) (kF_finding hsd l) qF_finding ck10 kd0 iF_finding tw557 tw0 (by decide) tw555 (by decide +kernel)) ?_
  refine ak (ok_ireturn rfl (by decide +kernel)) ?_
  refine ak (ok_iload_n (k := 1) rfl (by decide +kernel)) ?_
  refine ak (ok_istore_n (k := 3) rfl (by decide) (by decide +kernel)) ?_
  refine ak (ok_iconst (n := 0) (by decide) (by decide +kernel)) ?_
  refine ak (ok_istore (by decide) (by decide +kernel)) ?_
  refine ak (ok_iload (by decide +kernel)) ?_
  refine ak (ok_aload_n (k := 0) rfl (by decide +kernel)) ?_
  refine ak (ok_get (k := 0) ck10 kd0 (by decide) (fun _ _ _ => rfl) (vf_0_0 hsd) tw522 (by decide +kernel)) ?_
  refine ak (ok_get (k := 12) ck9 kd1 (by decide) (fun _ _ _ => rfl) (fun _ _ _ _ _ => trivial) tw413 (by decide +kernel)) ?_
  refine ak (ok_icmp_ge (off := 96) (by decide) (by decide +kernel)) ?_
  refine ak (ok_iload (by decide +kernel)) ?_
  refine ak (ok_iconst (n := 1) (by decide) (by decide +kernel)) ?_
  refine ak (ok_iadd (by decide +kernel)) ?_
  refine ak (ok_istore (by decide) (by decide +kernel)) ?_
  refine ak (ok_iload (by decide +kernel)) ?_
  refine ak (ok_aload_n (k := 0) rfl (by decide +kernel)) ?_
  refine ak (ok_get (k := 0) ck10 kd0 (by decide) (fun _ _ _ => rfl) (vf_0_0 hsd) tw522 (by decide +kernel)) ?_
  refine ak (ok_get (k := 12) ck9 kd1 (by decide) (fun _ _ _ => rfl) (fun _ _ _ _ _ => trivial) tw413 (by decide +kernel)) ?_
  refine ak (ok_icmp_ge (off := 72) (by decide) (by decide +kernel)) ?_
  refine ak (ok_aload_n (k := 0) rfl (by decide +kernel)) ?_
  refine ak (ok_get (k := 0) ck10 kd0 (by decide) (fun _ _ _ => rfl) (vf_0_0 hsd) tw522 (by decide +kernel)) ?_
  refine ak (ok_aload_n (k := 0) rfl (by decide +kernel)) ?_
  refine ak (ok_get (k := 0) ck10 kd0 (by decide) (fun _ _ _ => rfl) (vf_0_0 hsd) tw522 (by decide +kernel)) ?_
  refine ak (ok_get (k := 11) ck9 kd1 (by decide) (fun _ _ _ => rfl) (vf_1_11 hsd) tw411 (by decide +kernel)) ?_
  refine ak (ok_iload (by decide +kernel)) ?_
  refine ak (ok_aald (t0 := 6) (C := RX0) kd14 (by decide) rfl (vr_14 hsd) (by decide +kernel)) ?_
  refine ak (ok_aload_n (k := 0) rfl (by decide +kernel)) ?_
  refine ak (ok_get (k := 0) ck10 kd0 (by decide) (fun _ _ _ => rfl) (vf_0_0 hsd) tw522 (by decide +kernel)) ?_
  refine ak (ok_get (k := 11) ck9 kd1 (by decide) (fun _ _ _ => rfl) (vf_1_11 hsd) tw411 (by decide +kernel)) ?_
  refine ak (ok_iload (by decide +kernel)) ?_
  refine ak (ok_aald (t0 := 6) (C := RX0) kd14 (by decide) rfl (vr_14 hsd) (by decide +kernel)) ?_
  refine ak (ok_invV (r := 1) (kW_clashDay hsd l) qW_clashDay ck9 kd1 iW_clashDay tw884 tw885 (by decide) tw883 (by decide +kernel)) ?_
  refine ak (ok_istore (by decide) (by decide +kernel)) ?_
  refine ak (ok_iload (by decide +kernel)) ?_
  refine ak (ok_if_lt (off := 32) (by decide) (by decide +kernel)) ?_
  refine ak (ok_iload_n (k := 3) rfl (by decide +kernel)) ?_
  refine ak (ok_iinc (n := (-1)) (by decide) (by decide) (by decide +kernel)) ?_
  refine ak (ok_if_ne (off := 25) (by decide) (by decide +kernel)) ?_
  refine ak (ok_iload_n (k := 2) rfl (by decide +kernel)) ?_
  refine ak (ok_if_ne (off := 8) (by decide) (by decide +kernel)) ?_
  refine ak (ok_iload (by decide +kernel)) ?_
  refine ak (ok_goto (off := 15) (by decide) (by decide +kernel)) ?_
  refine ak (ok_iload_n (k := 2) rfl (by decide +kernel)) ?_
  refine ak (ok_iconst (n := 1) (by decide) (by decide +kernel)) ?_
  refine ak (ok_icmp_ne (off := 8) (by decide) (by decide +kernel)) ?_
  refine ak (ok_iload (by decide +kernel)) ?_
  refine ak (ok_goto (off := 5) (by decide) (by decide +kernel)) ?_
  refine ak (ok_iload (by decide +kernel)) ?_
  refine ak (ok_ireturn rfl (by decide +kernel)) ?_
  refine ak (ok_iinc (n := 1) (by decide) (by decide) (by decide +kernel)) ?_
  refine ak (ok_goto (off := (-78)) (by decide) (by decide +kernel)) ?_
  refine ak (ok_iinc (n := 1) (by decide) (by decide) (by decide +kernel)) ?_
  refine ak (ok_goto (off := (-102)) (by decide) (by decide +kernel)) ?_
  refine ak (ok_aload_n (k := 0) rfl (by decide +kernel)) ?_
  refine ak (ok_iconst (n := 2) (by decide) (by decide +kernel)) ?_
  refine ak (ok_invV (r := 0) (kF_finding hsd l) qF_finding ck10 kd0 iF_finding tw557 tw0 (by decide) tw555 (by decide +kernel)) ?_
  refine ak (ok_ireturn rfl (by decide +kernel)) ?_
  exact trivial
def KF_clash_42 (j24 : Int32 → Int32 → Int32 → Mem → Option (Int32 × Mem)) (j42 : Int32 → Int32 → Int32 → Int32 → Mem → Option (Int32 × Mem)) : Jm (Int32 × Mem) := fun t als st M =>
  if t = 24 then (match als, st with
  | [.inr (.inr (.inl (al0, bl0, cl0))), _, .inl x2, .inl x3, .inl x4, _, _], [] => if al0 = 0 ∧ bl0 = 0 ∧ cl0 = 0 then j24 x2 x3 x4 M else none
  | _, _ => none) else
  if t = 42 then (match als, st with
  | [.inr (.inr (.inl (al0, bl0, cl0))), _, .inl x2, .inl x3, .inl x4, .inl x5, _], [] => if al0 = 0 ∧ bl0 = 0 ∧ cl0 = 0 then j42 x2 x3 x4 x5 M else none
  | _, _ => none) else
  none
set_option maxRecDepth 1000000 in
theorem eF_clash_42 (j24 : Int32 → Int32 → Int32 → Mem → Option (Int32 × Mem)) (j42 : Int32 → Int32 → Int32 → Int32 → Mem → Option (Int32 × Mem)) (x2 : Int32) (x3 : Int32) (x4 : Int32) (x5 : Int32) (M : Mem) (u1 u6 : AV) : run (cF_clash) (KF_clash_42 j24 j42) rtI 400 (seek (cF_clash) 42) [aR (0, 0, 0), u1, aI x2, aI x3, aI x4, aI x5, u6] [] M = mF_clash_42b j24 j42 x2 x3 x4 x5 M := id rfl
theorem lF_clash_42 {E : EV} {l : Launch} {p : Program} {e : Env} {s : State} {m : MethodId} {args : Array Value} {below : List Frame} {meth : Method} {c : Code} (A : AllOK E l 6 "FreeLances" prog_1_method_31_code 7 (some .int) outI (cF_clash)) (C : Cx E p s m args meth c "FreeLances" prog_1_method_31_code 7 (some .int)) {r24 : Int32 → Int32 → Int32 → Mem → Option (Int32 × Mem)} (H24 : ∀ (x2 : Int32) (x3 : Int32) (x4 : Int32) (M : Mem) (res : (Int32 × Mem)), r24 x2 x3 x4 M = some res → ∀ (u1 u5 u6 : AV), Wm E p l e 6 s m args below meth c 7 24 [aR (0, 0, 0), u1, aI x2, aI x3, aI x4, u5, u6] [] M (outI res).1 (outI res).2) : ∀ (n : Nat), ∀ (x2 : Int32) (x3 : Int32) (x4 : Int32) (x5 : Int32) (M : Mem) (res : (Int32 × Mem)), mF_clash_42 r24 n x2 x3 x4 x5 M = some res → ∀ (u1 u6 : AV), Wm E p l e 6 s m args below meth c 7 42 [aR (0, 0, 0), u1, aI x2, aI x3, aI x4, aI x5, u6] [] M (outI res).1 (outI res).2 := by
  intro n
  induction n with
  | zero => intro _ _ _ _ M res h; cases h
  | succ n ih =>
    intro x2 x3 x4 x5 M res h u1 u6
    refine run_at C A rfl hrtI (n := 400) ((eF_clash_42 r24 (mF_clash_42 r24 n) x2 x3 x4 x5 M u1 u6).trans h) ?_
    intro t als st M hk
    unfold KF_clash_42 at hk
    split at hk
    · rename_i ht
      subst ht
      split at hk
      · split at hk
        · rename_i hc
          obtain ⟨rfl, rfl, rfl⟩ := hc
          exact H24 _ _ _ _ _ hk _ _ _
        · cases hk
      · cases hk
    split at hk
    · rename_i ht
      subst ht
      split at hk
      · split at hk
        · rename_i hc
          obtain ⟨rfl, rfl, rfl⟩ := hc
          exact ih _ _ _ _ _ _ hk _ _
        · cases hk
      · cases hk
    cases hk
def KF_clash_24 (j42 : Int32 → Int32 → Int32 → Int32 → Mem → Option (Int32 × Mem)) : Jm (Int32 × Mem) := fun t als st M =>
  if t = 42 then (match als, st with
  | [.inr (.inr (.inl (al0, bl0, cl0))), _, .inl x2, .inl x3, .inl x4, .inl x5, _], [] => if al0 = 0 ∧ bl0 = 0 ∧ cl0 = 0 then j42 x2 x3 x4 x5 M else none
  | _, _ => none) else
  none
set_option maxRecDepth 1000000 in
theorem eF_clash_24 (j42 : Int32 → Int32 → Int32 → Int32 → Mem → Option (Int32 × Mem)) (x2 : Int32) (x3 : Int32) (x4 : Int32) (M : Mem) (u1 u5 u6 : AV) : run (cF_clash) (KF_clash_24 j42) rtI 400 (seek (cF_clash) 24) [aR (0, 0, 0), u1, aI x2, aI x3, aI x4, u5, u6] [] M = mF_clash_24b j42 x2 x3 x4 M := id rfl
theorem lF_clash_24 {E : EV} {l : Launch} {p : Program} {e : Env} {s : State} {m : MethodId} {args : Array Value} {below : List Frame} {meth : Method} {c : Code} (A : AllOK E l 6 "FreeLances" prog_1_method_31_code 7 (some .int) outI (cF_clash)) (C : Cx E p s m args meth c "FreeLances" prog_1_method_31_code 7 (some .int)) : ∀ (n : Nat), ∀ (x2 : Int32) (x3 : Int32) (x4 : Int32) (M : Mem) (res : (Int32 × Mem)), mF_clash_24 n x2 x3 x4 M = some res → ∀ (u1 u5 u6 : AV), Wm E p l e 6 s m args below meth c 7 24 [aR (0, 0, 0), u1, aI x2, aI x3, aI x4, u5, u6] [] M (outI res).1 (outI res).2 := by
  intro n
  induction n with
  | zero => intro _ _ _ M res h; cases h
  | succ n ih =>
    intro x2 x3 x4 M res h u1 u5 u6
    refine run_at C A rfl hrtI (n := 400) ((eF_clash_24 (mF_clash_42 (mF_clash_24 n) fuel) x2 x3 x4 M u1 u5 u6).trans h) ?_
    intro t als st M hk
    unfold KF_clash_24 at hk
    split at hk
    · rename_i ht
      subst ht
      split at hk
      · split at hk
        · rename_i hc
          obtain ⟨rfl, rfl, rfl⟩ := hc
          exact lF_clash_42 A C ih _ _ _ _ _ _ _ hk _ _
        · cases hk
      · cases hk
    cases hk
def KF_clash (j24 : Int32 → Int32 → Int32 → Mem → Option (Int32 × Mem)) : Jm (Int32 × Mem) := fun t als st M =>
  if t = 24 then (match als, st with
  | [.inr (.inr (.inl (al0, bl0, cl0))), _, .inl x2, .inl x3, .inl x4, _, _], [] => if al0 = 0 ∧ bl0 = 0 ∧ cl0 = 0 then j24 x2 x3 x4 M else none
  | _, _ => none) else
  none
set_option maxRecDepth 1000000 in
theorem eF_clash (j24 : Int32 → Int32 → Int32 → Mem → Option (Int32 × Mem)) (x1 : Int32) (x2 : Int32) (M : Mem) : run (cF_clash) (KF_clash j24) rtI 400 (seek (cF_clash) 0) [aR (0, 0, 0), aI x1, aI x2, aU, aU, aU, aU] [] M = mF_clashb j24 x1 x2 M := id rfl
theorem lF_clash {E : EV} {l : Launch} {p : Program} {e : Env} {s : State} {m : MethodId} {args : Array Value} {below : List Frame} {meth : Method} {c : Code} (A : AllOK E l 6 "FreeLances" prog_1_method_31_code 7 (some .int) outI (cF_clash)) (C : Cx E p s m args meth c "FreeLances" prog_1_method_31_code 7 (some .int)) : ∀ (x1 : Int32) (x2 : Int32) (M : Mem) (res : (Int32 × Mem)), mF_clash x1 x2 M = some res → Wm E p l e 6 s m args below meth c 7 0 [aR (0, 0, 0), aI x1, aI x2, aU, aU, aU, aU] [] M (outI res).1 (outI res).2 := by
  intro x1 x2 M res h
  refine run_at C A rfl hrtI (n := 400) ((eF_clash (mF_clash_24 fuel) x1 x2 M).trans h) ?_
  intro t als st M hk
  unfold KF_clash at hk
  split at hk
  · rename_i ht
    subst ht
    split at hk
    · split at hk
      · rename_i hc
        obtain ⟨rfl, rfl, rfl⟩ := hc
        exact lF_clash_24 A C _ _ _ _ _ _ hk _ _ _
      · cases hk
    · cases hk
  cases hk
def dF_clash {β : Type} : Den β := fun as M k => match as with
  | [.inr (.inr (.inl (al0, bl0, cl0))), .inl x1, .inl x2] => if al0 = 0 ∧ bl0 = 0 ∧ cl0 = 0 then (mF_clash x1 x2 M).bind fun q => k (aI q.1) q.2 else none
  | _ => none
theorem wF_clash {E : EV} (hsd : E.2.2.2 = 0) (l : Launch) (x1 : Int32) (x2 : Int32) (M : Mem) (q : (Int32 × Mem)) (hq : mF_clash x1 x2 M = some q) : Con E l 6 yF_clash prog_1_method_31_code 7 (some .int) [aR (0, 0, 0), aI x1, aI x2] M (outI q).1 (outI q).2 := by
  refine con_of iF_clash (Nat.le_of_ble_eq_true rfl) ?_
  intro p e s m args below meth c C
  exact lF_clash (oF_clash hsd l) C x1 x2 M _ hq
theorem kF_clash {E : EV} (hsd : E.2.2.2 = 0) (l : Launch) {β : Type} : DenOK E l 6 yF_clash prog_1_method_31_code 7 (some .int) true (dF_clash (β := β)) := by
  intro as M k res h
  unfold dF_clash at h
  split at h
  ·
    split at h
    · rename_i hc
      obtain ⟨rfl, rfl, rfl⟩ := hc
      obtain ⟨q, hq, hk⟩ := Option.bind_eq_some_iff.mp h
      exact ⟨aI q.1, q.2, hk, rfl, wF_clash hsd l _ _ M q hq⟩
    · cases h
  · cases h
theorem qF_clash {β : Type} : RecOK 0 (dF_clash (β := β)) := by
  intro as M k res h
  unfold dF_clash at h
  split at h
  ·
    split at h
    · rename_i hc
      obtain ⟨rfl, rfl, rfl⟩ := hc
      exact ⟨_, _, _, rfl⟩
    · cases h
  · cases h
/-! ===== FreeLances$World.boundUntil(IIZ)I ===== -/
abbrev yW_boundUntil : MethodName := ⟨"FreeLances$World", "boundUntil", "(IIZ)I"⟩
theorem iW_boundUntil : MI yW_boundUntil prog_11_method_25_code 9 (some .int) 3 := ⟨tw910, tw98, ⟨by decide, by decide⟩, by decide +kernel, by decide, by decide⟩
def cW_boundUntil : List (Ent (Int32 × Mem)) := [(false, 0, 1, sC (-1)),
  (false, 1, 2, sStI 4),
  (false, 3, 1, sC 0),
  (false, 4, 2, sStI 5),
  (true, 6, 2, sLdI 5),
  (false, 8, 1, sLdA 0),
  (false, 9, 3, sGet 1 (fun w i M => aI (M 1 w i 12))),
  (false, 12, 3, sCmpGe 117),
  (false, 15, 1, sLdA 0),
  (false, 16, 3, sGet 1 (fun w i M => aR (14, w, 0))),
  (false, 19, 2, sLdI 5),
  (false, 21, 1, sAald 14 24 15),
  (false, 22, 2, sStA 6),
  (false, 24, 1, sLdI 3),
  (false, 25, 3, sIfEq 52),
  (false, 28, 2, sLdA 6),
  (false, 30, 3, sGet 15 (fun w i M => aI (M 15 w i 11))),
  (false, 33, 3, sIfNe 52),
  (false, 36, 2, sLdA 6),
  (false, 38, 3, sGet 15 (fun w i M => aI (M 15 w i 3))),
  (false, 41, 1, sLdA 0),
  (false, 42, 3, sGet 1 (fun w i M => aI (M 1 w i 0))),
  (false, 45, 3, sCmpLt 52),
  (false, 48, 1, sC 1),
  (false, 49, 3, sGoto 53),
  (false, 52, 1, sC 0),
  (true, 53, 2, sStI 7),
  (false, 55, 2, sLdI 7),
  (false, 57, 3, sIfEq 71),
  (false, 60, 2, sLdA 6),
  (false, 62, 3, sGet 15 (fun w i M => aI (M 15 w i 3))),
  (false, 65, 2, sC 30),
  (false, 67, 1, sBin (fun x y => x + y)),
  (false, 68, 3, sGoto 76),
  (false, 71, 2, sLdA 6),
  (false, 73, 3, sGet 15 (fun w i M => aI (M 15 w i 3))),
  (false, 76, 2, sStI 8),
  (false, 78, 2, sLdA 6),
  (false, 80, 1, sLdI 1),
  (false, 81, 3, sInv 2 true dB_isContractOf),
  (false, 84, 3, sIfEq 111),
  (false, 87, 2, sLdA 6),
  (false, 89, 3, sGet 15 (fun w i M => aI (M 15 w i 2))),
  (false, 92, 1, sLdI 2),
  (false, 93, 3, sCmpGt 111),
  (false, 96, 1, sLdI 2),
  (false, 97, 2, sLdI 8),
  (false, 99, 3, sCmpGt 111),
  (false, 102, 2, sLdI 4),
  (false, 104, 2, sLdI 8),
  (false, 106, 3, sMax),
  (false, 109, 2, sStI 4),
  (false, 111, 3, sInc 5 1),
  (false, 114, 3, sGoto 6),
  (false, 117, 2, sLdI 4),
  (false, 119, 1, sRetI)]
theorem oW_boundUntil {E : EV} (hsd : E.2.2.2 = 0) (l : Launch) : AllOK E l 3 "FreeLances$World" prog_11_method_25_code 9 (some .int) outI (cW_boundUntil) := by
  refine ak (ok_iconst (n := (-1)) (by decide) (by decide +kernel)) ?_
  refine ak (ok_istore (by decide) (by decide +kernel)) ?_
  refine ak (ok_iconst (n := 0) (by decide) (by decide +kernel)) ?_
  refine ak (ok_istore (by decide) (by decide +kernel)) ?_
  refine ak (ok_iload (by decide +kernel)) ?_
  refine ak (ok_aload_n (k := 0) rfl (by decide +kernel)) ?_
  refine ak (ok_get (k := 12) ck9 kd1 (by decide) (fun _ _ _ => rfl) (fun _ _ _ _ _ => trivial) tw412 (by decide +kernel)) ?_
  refine ak (ok_icmp_ge (off := 105) (by decide) (by decide +kernel)) ?_
  refine ak (ok_aload_n (k := 0) rfl (by decide +kernel)) ?_
  refine ak (ok_get (k := 11) ck9 kd1 (by decide) (fun _ _ _ => rfl) (vf_1_11 hsd) tw410 (by decide +kernel)) ?_
  refine ak (ok_iload (by decide +kernel)) ?_
  refine ak (ok_aald (t0 := 6) (C := RX0) kd14 (by decide) rfl (vr_14 hsd) (by decide +kernel)) ?_
  refine ak (ok_astore (by decide) (by decide +kernel)) ?_
  refine ak (ok_iload_n (k := 3) rfl (by decide +kernel)) ?_
  refine ak (ok_if_eq (off := 27) (by decide) (by decide +kernel)) ?_
  refine ak (ok_aload (by decide +kernel)) ?_
  refine ak (ok_get (k := 11) ck0 kd15 (by decide) (fun _ _ _ => rfl) (fun _ _ _ _ _ => trivial) tw359 (by decide +kernel)) ?_
  refine ak (ok_if_ne (off := 19) (by decide) (by decide +kernel)) ?_
  refine ak (ok_aload (by decide +kernel)) ?_
  refine ak (ok_get (k := 3) ck0 kd15 (by decide) (fun _ _ _ => rfl) (fun _ _ _ _ _ => trivial) tw335 (by decide +kernel)) ?_
  refine ak (ok_aload_n (k := 0) rfl (by decide +kernel)) ?_
  refine ak (ok_get (k := 0) ck9 kd1 (by decide) (fun _ _ _ => rfl) (fun _ _ _ _ _ => trivial) tw386 (by decide +kernel)) ?_
  refine ak (ok_icmp_lt (off := 7) (by decide) (by decide +kernel)) ?_
  refine ak (ok_iconst (n := 1) (by decide) (by decide +kernel)) ?_
  refine ak (ok_goto (off := 4) (by decide) (by decide +kernel)) ?_
  refine ak (ok_iconst (n := 0) (by decide) (by decide +kernel)) ?_
  refine ak (ok_istore (by decide) (by decide +kernel)) ?_
  refine ak (ok_iload (by decide +kernel)) ?_
  refine ak (ok_if_eq (off := 14) (by decide) (by decide +kernel)) ?_
  refine ak (ok_aload (by decide +kernel)) ?_
  refine ak (ok_get (k := 3) ck0 kd15 (by decide) (fun _ _ _ => rfl) (fun _ _ _ _ _ => trivial) tw335 (by decide +kernel)) ?_
  refine ak (ok_bipush (n := 30) (by decide) (by decide +kernel)) ?_
  refine ak (ok_iadd (by decide +kernel)) ?_
  refine ak (ok_goto (off := 8) (by decide) (by decide +kernel)) ?_
  refine ak (ok_aload (by decide +kernel)) ?_
  refine ak (ok_get (k := 3) ck0 kd15 (by decide) (fun _ _ _ => rfl) (fun _ _ _ _ _ => trivial) tw335 (by decide +kernel)) ?_
  refine ak (ok_istore (by decide) (by decide +kernel)) ?_
  refine ak (ok_aload (by decide +kernel)) ?_
  refine ak (ok_iload_n (k := 1) rfl (by decide +kernel)) ?_
  refine ak (ok_invV (r := 15) (kB_isContractOf hsd l) qB_isContractOf ck0 kd15 iB_isContractOf tw639 tw640 (by decide) tw638 (by decide +kernel)) ?_
  refine ak (ok_if_eq (off := 27) (by decide) (by decide +kernel)) ?_
  refine ak (ok_aload (by decide +kernel)) ?_
  refine ak (ok_get (k := 2) ck0 kd15 (by decide) (fun _ _ _ => rfl) (fun _ _ _ _ _ => trivial) tw332 (by decide +kernel)) ?_
  refine ak (ok_iload_n (k := 2) rfl (by decide +kernel)) ?_
  refine ak (ok_icmp_gt (off := 18) (by decide) (by decide +kernel)) ?_
  refine ak (ok_iload_n (k := 2) rfl (by decide +kernel)) ?_
  refine ak (ok_iload (by decide +kernel)) ?_
  refine ak (ok_icmp_gt (off := 12) (by decide) (by decide +kernel)) ?_
  refine ak (ok_iload (by decide +kernel)) ?_
  refine ak (ok_iload (by decide +kernel)) ?_
  refine ak (ok_mmax (by decide) tw887 tw888 tw109 twMmax (by decide +kernel)) ?_
  refine ak (ok_istore (by decide) (by decide +kernel)) ?_
  refine ak (ok_iinc (n := 1) (by decide) (by decide) (by decide +kernel)) ?_
  refine ak (ok_goto (off := (-108)) (by decide) (by decide +kernel)) ?_
  refine ak (ok_iload (by decide +kernel)) ?_
  refine ak (ok_ireturn rfl (by decide +kernel)) ?_
  exact trivial
def KW_boundUntil_53 (j6 : Nat → Int32 → Int32 → Int32 → Int32 → Int32 → Mem → Option (Int32 × Mem)) : Jm (Int32 × Mem) := fun t als st M =>
  if t = 6 then (match als, st with
  | [.inr (.inr (.inl (al0, w0, cl0))), .inl x1, .inl x2, .inl x3, .inl x4, .inl x5, _, _, _], [] => if al0 = 1 ∧ cl0 = 0 then j6 w0 x1 x2 x3 x4 x5 M else none
  | _, _ => none) else
  none
set_option maxRecDepth 1000000 in
theorem eW_boundUntil_53 (j6 : Nat → Int32 → Int32 → Int32 → Int32 → Int32 → Mem → Option (Int32 × Mem)) (w0 : Nat) (x1 : Int32) (x2 : Int32) (x3 : Int32) (x4 : Int32) (x5 : Int32) (w6 : Nat) (i6 : Nat) (y0 : Int32) (M : Mem) (u7 u8 : AV) : run (cW_boundUntil) (KW_boundUntil_53 j6) rtI 400 (seek (cW_boundUntil) 53) [aR (1, w0, 0), aI x1, aI x2, aI x3, aI x4, aI x5, aR (15, w6, i6), u7, u8] [aI y0] M = mW_boundUntil_53b j6 w0 x1 x2 x3 x4 x5 w6 i6 y0 M := id rfl
theorem lW_boundUntil_53 {E : EV} {l : Launch} {p : Program} {e : Env} {s : State} {m : MethodId} {args : Array Value} {below : List Frame} {meth : Method} {c : Code} (A : AllOK E l 3 "FreeLances$World" prog_11_method_25_code 9 (some .int) outI (cW_boundUntil)) (C : Cx E p s m args meth c "FreeLances$World" prog_11_method_25_code 9 (some .int)) {r6 : Nat → Int32 → Int32 → Int32 → Int32 → Int32 → Mem → Option (Int32 × Mem)} (H6 : ∀ (w0 : Nat) (x1 : Int32) (x2 : Int32) (x3 : Int32) (x4 : Int32) (x5 : Int32) (M : Mem) (res : (Int32 × Mem)), r6 w0 x1 x2 x3 x4 x5 M = some res → ∀ (u6 u7 u8 : AV), Wm E p l e 3 s m args below meth c 9 6 [aR (1, w0, 0), aI x1, aI x2, aI x3, aI x4, aI x5, u6, u7, u8] [] M (outI res).1 (outI res).2) : ∀ (w0 : Nat) (x1 : Int32) (x2 : Int32) (x3 : Int32) (x4 : Int32) (x5 : Int32) (w6 : Nat) (i6 : Nat) (y0 : Int32) (M : Mem) (res : (Int32 × Mem)), mW_boundUntil_53 r6 w0 x1 x2 x3 x4 x5 w6 i6 y0 M = some res → ∀ (u7 u8 : AV), Wm E p l e 3 s m args below meth c 9 53 [aR (1, w0, 0), aI x1, aI x2, aI x3, aI x4, aI x5, aR (15, w6, i6), u7, u8] [aI y0] M (outI res).1 (outI res).2 := by
  intro w0 x1 x2 x3 x4 x5 w6 i6 y0 M res h u7 u8
  refine run_at C A rfl hrtI (n := 400) ((eW_boundUntil_53 r6 w0 x1 x2 x3 x4 x5 w6 i6 y0 M u7 u8).trans h) ?_
  intro t als st M hk
  unfold KW_boundUntil_53 at hk
  split at hk
  · rename_i ht
    subst ht
    split at hk
    · split at hk
      · rename_i hc
        obtain ⟨rfl, rfl⟩ := hc
        exact H6 _ _ _ _ _ _ _ _ hk _ _ _
      · cases hk
    · cases hk
  cases hk
def KW_boundUntil_6 (j53 : Nat → Int32 → Int32 → Int32 → Int32 → Int32 → Nat → Nat → Int32 → Mem → Option (Int32 × Mem)) : Jm (Int32 × Mem) := fun t als st M =>
  if t = 53 then (match als, st with
  | [.inr (.inr (.inl (al0, w0, cl0))), .inl x1, .inl x2, .inl x3, .inl x4, .inl x5, .inr (.inr (.inl (al6, w6, i6))), _, _], [.inl y0] => if al0 = 1 ∧ cl0 = 0 ∧ al6 = 15 then j53 w0 x1 x2 x3 x4 x5 w6 i6 y0 M else none
  | _, _ => none) else
  none
set_option maxRecDepth 1000000 in
theorem eW_boundUntil_6 (j53 : Nat → Int32 → Int32 → Int32 → Int32 → Int32 → Nat → Nat → Int32 → Mem → Option (Int32 × Mem)) (w0 : Nat) (x1 : Int32) (x2 : Int32) (x3 : Int32) (x4 : Int32) (x5 : Int32) (M : Mem) (u6 u7 u8 : AV) : run (cW_boundUntil) (KW_boundUntil_6 j53) rtI 400 (seek (cW_boundUntil) 6) [aR (1, w0, 0), aI x1, aI x2, aI x3, aI x4, aI x5, u6, u7, u8] [] M = mW_boundUntil_6b j53 w0 x1 x2 x3 x4 x5 M := id rfl
theorem lW_boundUntil_6 {E : EV} {l : Launch} {p : Program} {e : Env} {s : State} {m : MethodId} {args : Array Value} {below : List Frame} {meth : Method} {c : Code} (A : AllOK E l 3 "FreeLances$World" prog_11_method_25_code 9 (some .int) outI (cW_boundUntil)) (C : Cx E p s m args meth c "FreeLances$World" prog_11_method_25_code 9 (some .int)) : ∀ (n : Nat), ∀ (w0 : Nat) (x1 : Int32) (x2 : Int32) (x3 : Int32) (x4 : Int32) (x5 : Int32) (M : Mem) (res : (Int32 × Mem)), mW_boundUntil_6 n w0 x1 x2 x3 x4 x5 M = some res → ∀ (u6 u7 u8 : AV), Wm E p l e 3 s m args below meth c 9 6 [aR (1, w0, 0), aI x1, aI x2, aI x3, aI x4, aI x5, u6, u7, u8] [] M (outI res).1 (outI res).2 := by
  intro n
  induction n with
  | zero => intro _ _ _ _ _ _ M res h; cases h
  | succ n ih =>
    intro w0 x1 x2 x3 x4 x5 M res h u6 u7 u8
    refine run_at C A rfl hrtI (n := 400) ((eW_boundUntil_6 (mW_boundUntil_53 (mW_boundUntil_6 n)) w0 x1 x2 x3 x4 x5 M u6 u7 u8).trans h) ?_
    intro t als st M hk
    unfold KW_boundUntil_6 at hk
    split at hk
    · rename_i ht
      subst ht
      split at hk
      · split at hk
        · rename_i hc
          obtain ⟨rfl, rfl, rfl⟩ := hc
          exact lW_boundUntil_53 A C ih _ _ _ _ _ _ _ _ _ _ _ hk _ _
        · cases hk
      · cases hk
    cases hk
def KW_boundUntil (j6 : Nat → Int32 → Int32 → Int32 → Int32 → Int32 → Mem → Option (Int32 × Mem)) : Jm (Int32 × Mem) := fun t als st M =>
  if t = 6 then (match als, st with
  | [.inr (.inr (.inl (al0, w0, cl0))), .inl x1, .inl x2, .inl x3, .inl x4, .inl x5, _, _, _], [] => if al0 = 1 ∧ cl0 = 0 then j6 w0 x1 x2 x3 x4 x5 M else none
  | _, _ => none) else
  none
set_option maxRecDepth 1000000 in
theorem eW_boundUntil (j6 : Nat → Int32 → Int32 → Int32 → Int32 → Int32 → Mem → Option (Int32 × Mem)) (w0 : Nat) (x1 : Int32) (x2 : Int32) (x3 : Int32) (M : Mem) : run (cW_boundUntil) (KW_boundUntil j6) rtI 400 (seek (cW_boundUntil) 0) [aR (1, w0, 0), aI x1, aI x2, aI x3, aU, aU, aU, aU, aU] [] M = mW_boundUntilb j6 w0 x1 x2 x3 M := id rfl
theorem lW_boundUntil {E : EV} {l : Launch} {p : Program} {e : Env} {s : State} {m : MethodId} {args : Array Value} {below : List Frame} {meth : Method} {c : Code} (A : AllOK E l 3 "FreeLances$World" prog_11_method_25_code 9 (some .int) outI (cW_boundUntil)) (C : Cx E p s m args meth c "FreeLances$World" prog_11_method_25_code 9 (some .int)) : ∀ (w0 : Nat) (x1 : Int32) (x2 : Int32) (x3 : Int32) (M : Mem) (res : (Int32 × Mem)), mW_boundUntil w0 x1 x2 x3 M = some res → Wm E p l e 3 s m args below meth c 9 0 [aR (1, w0, 0), aI x1, aI x2, aI x3, aU, aU, aU, aU, aU] [] M (outI res).1 (outI res).2 := by
  intro w0 x1 x2 x3 M res h
  refine run_at C A rfl hrtI (n := 400) ((eW_boundUntil (mW_boundUntil_6 fuel) w0 x1 x2 x3 M).trans h) ?_
  intro t als st M hk
  unfold KW_boundUntil at hk
  split at hk
  · rename_i ht
    subst ht
    split at hk
    · split at hk
      · rename_i hc
        obtain ⟨rfl, rfl⟩ := hc
        exact lW_boundUntil_6 A C _ _ _ _ _ _ _ _ _ hk _ _ _
      · cases hk
    · cases hk
  cases hk
def dW_boundUntil {β : Type} : Den β := fun as M k => match as with
  | [.inr (.inr (.inl (al0, w0, cl0))), .inl x1, .inl x2, .inl x3] => if al0 = 1 ∧ cl0 = 0 then (mW_boundUntil w0 x1 x2 x3 M).bind fun q => k (aI q.1) q.2 else none
  | _ => none
theorem wW_boundUntil {E : EV} (hsd : E.2.2.2 = 0) (l : Launch) (w0 : Nat) (x1 : Int32) (x2 : Int32) (x3 : Int32) (M : Mem) (q : (Int32 × Mem)) (hq : mW_boundUntil w0 x1 x2 x3 M = some q) : Con E l 3 yW_boundUntil prog_11_method_25_code 9 (some .int) [aR (1, w0, 0), aI x1, aI x2, aI x3] M (outI q).1 (outI q).2 := by
  refine con_of iW_boundUntil (Nat.le_of_ble_eq_true rfl) ?_
  intro p e s m args below meth c C
  exact lW_boundUntil (oW_boundUntil hsd l) C w0 x1 x2 x3 M _ hq
theorem kW_boundUntil {E : EV} (hsd : E.2.2.2 = 0) (l : Launch) {β : Type} : DenOK E l 3 yW_boundUntil prog_11_method_25_code 9 (some .int) true (dW_boundUntil (β := β)) := by
  intro as M k res h
  unfold dW_boundUntil at h
  split at h
  ·
    split at h
    · rename_i hc
      obtain ⟨rfl, rfl⟩ := hc
      obtain ⟨q, hq, hk⟩ := Option.bind_eq_some_iff.mp h
      exact ⟨aI q.1, q.2, hk, rfl, wW_boundUntil hsd l _ _ _ _ M q hq⟩
    · cases h
  · cases h
theorem qW_boundUntil {β : Type} : RecOK 1 (dW_boundUntil (β := β)) := by
  intro as M k res h
  unfold dW_boundUntil at h
  split at h
  ·
    split at h
    · rename_i hc
      obtain ⟨rfl, rfl⟩ := hc
      exact ⟨_, _, _, rfl⟩
    · cases h
  · cases h
/-! ===== FreeLances$World.firstFree(IZ)I ===== -/
abbrev yW_firstFree : MethodName := ⟨"FreeLances$World", "firstFree", "(IZ)I"⟩
theorem iW_firstFree : MI yW_firstFree prog_11_method_24_code 6 (some .int) 2 := ⟨tw906, tw98, ⟨by decide, by decide⟩, by decide +kernel, by decide, by decide⟩
def cW_firstFree : List (Ent (Int32 × Mem)) := [(false, 0, 1, sLdA 0),
  (false, 1, 3, sGet 1 (fun w i M => aI (M 1 w i 0))),
  (false, 4, 1, sStI 3),
  (false, 5, 1, sC 0),
  (false, 6, 2, sStI 4),
  (true, 8, 2, sLdI 4),
  (false, 10, 2, sC 24),
  (false, 12, 3, sCmpGe 42),
  (false, 15, 1, sLdA 0),
  (false, 16, 1, sLdI 1),
  (false, 17, 1, sLdI 3),
  (false, 18, 1, sLdI 2),
  (false, 19, 3, sInv 4 true dW_boundUntil),
  (false, 22, 2, sStI 5),
  (false, 24, 2, sLdI 5),
  (false, 26, 3, sIfGe 31),
  (false, 29, 1, sLdI 3),
  (false, 30, 1, sRetI),
  (false, 31, 2, sLdI 5),
  (false, 33, 1, sC 1),
  (false, 34, 1, sBin (fun x y => x + y)),
  (false, 35, 1, sStI 3),
  (false, 36, 3, sInc 4 1),
  (false, 39, 3, sGoto 8),
  (false, 42, 1, sLdI 3),
  (false, 43, 1, sRetI)]
theorem oW_firstFree {E : EV} (hsd : E.2.2.2 = 0) (l : Launch) : AllOK E l 4 "FreeLances$World" prog_11_method_24_code 6 (some .int) outI (cW_firstFree) := by
  refine ak (ok_aload_n (k := 0) rfl (by decide +kernel)) ?_
  refine ak (ok_get (k := 0) ck9 kd1 (by decide) (fun _ _ _ => rfl) (fun _ _ _ _ _ => trivial) tw386 (by decide +kernel)) ?_
  refine ak (ok_istore_n (k := 3) rfl (by decide) (by decide +kernel)) ?_
  refine ak (ok_iconst (n := 0) (by decide) (by decide +kernel)) ?_
  refine ak (ok_istore (by decide) (by decide +kernel)) ?_
  refine ak (ok_iload (by decide +kernel)) ?_
  refine ak (ok_bipush (n := 24) (by decide) (by decide +kernel)) ?_
  refine ak (ok_icmp_ge (off := 30) (by decide) (by decide +kernel)) ?_
  refine ak (ok_aload_n (k := 0) rfl (by decide +kernel)) ?_
  refine ak (ok_iload_n (k := 1) rfl (by decide +kernel)) ?_
  refine ak (ok_iload_n (k := 3) rfl (by decide +kernel)) ?_
  refine ak (ok_iload_n (k := 2) rfl (by decide +kernel)) ?_
  refine ak (ok_invV (r := 1) (kW_boundUntil hsd l) qW_boundUntil ck9 kd1 iW_boundUntil tw909 tw21 (by decide) tw907 (by decide +kernel)) ?_
  refine ak (ok_istore (by decide) (by decide +kernel)) ?_
  refine ak (ok_iload (by decide +kernel)) ?_
  refine ak (ok_if_ge (off := 5) (by decide) (by decide +kernel)) ?_
  refine ak (ok_iload_n (k := 3) rfl (by decide +kernel)) ?_
  refine ak (ok_ireturn rfl (by decide +kernel)) ?_
  refine ak (ok_iload (by decide +kernel)) ?_
  refine ak (ok_iconst (n := 1) (by decide) (by decide +kernel)) ?_
  refine ak (ok_iadd (by decide +kernel)) ?_
  refine ak (ok_istore_n (k := 3) rfl (by decide) (by decide +kernel)) ?_
  refine ak (ok_iinc (n := 1) (by decide) (by decide) (by decide +kernel)) ?_
  refine ak (ok_goto (off := (-31)) (by decide) (by decide +kernel)) ?_
  refine ak (ok_iload_n (k := 3) rfl (by decide +kernel)) ?_
  refine ak (ok_ireturn rfl (by decide +kernel)) ?_
  exact trivial
def KW_firstFree_8 (j8 : Nat → Int32 → Int32 → Int32 → Int32 → Mem → Option (Int32 × Mem)) : Jm (Int32 × Mem) := fun t als st M =>
  if t = 8 then (match als, st with
  | [.inr (.inr (.inl (al0, w0, cl0))), .inl x1, .inl x2, .inl x3, .inl x4, _], [] => if al0 = 1 ∧ cl0 = 0 then j8 w0 x1 x2 x3 x4 M else none
  | _, _ => none) else
  none
set_option maxRecDepth 1000000 in
theorem eW_firstFree_8 (j8 : Nat → Int32 → Int32 → Int32 → Int32 → Mem → Option (Int32 × Mem)) (w0 : Nat) (x1 : Int32) (x2 : Int32) (x3 : Int32) (x4 : Int32) (M : Mem) (u5 : AV) : run (cW_firstFree) (KW_firstFree_8 j8) rtI 400 (seek (cW_firstFree) 8) [aR (1, w0, 0), aI x1, aI x2, aI x3, aI x4, u5] [] M = mW_firstFree_8b j8 w0 x1 x2 x3 x4 M := id rfl
theorem lW_firstFree_8 {E : EV} {l : Launch} {p : Program} {e : Env} {s : State} {m : MethodId} {args : Array Value} {below : List Frame} {meth : Method} {c : Code} (A : AllOK E l 4 "FreeLances$World" prog_11_method_24_code 6 (some .int) outI (cW_firstFree)) (C : Cx E p s m args meth c "FreeLances$World" prog_11_method_24_code 6 (some .int)) : ∀ (n : Nat), ∀ (w0 : Nat) (x1 : Int32) (x2 : Int32) (x3 : Int32) (x4 : Int32) (M : Mem) (res : (Int32 × Mem)), mW_firstFree_8 n w0 x1 x2 x3 x4 M = some res → ∀ (u5 : AV), Wm E p l e 4 s m args below meth c 6 8 [aR (1, w0, 0), aI x1, aI x2, aI x3, aI x4, u5] [] M (outI res).1 (outI res).2 := by
  intro n
  induction n with
  | zero => intro _ _ _ _ _ M res h; cases h
  | succ n ih =>
    intro w0 x1 x2 x3 x4 M res h u5
    refine run_at C A rfl hrtI (n := 400) ((eW_firstFree_8 (mW_firstFree_8 n) w0 x1 x2 x3 x4 M u5).trans h) ?_
    intro t als st M hk
    unfold KW_firstFree_8 at hk
    split at hk
    · rename_i ht
      subst ht
      split at hk
      · split at hk
        · rename_i hc
          obtain ⟨rfl, rfl⟩ := hc
          exact ih _ _ _ _ _ _ _ hk _
        · cases hk
      · cases hk
    cases hk
def KW_firstFree (j8 : Nat → Int32 → Int32 → Int32 → Int32 → Mem → Option (Int32 × Mem)) : Jm (Int32 × Mem) := fun t als st M =>
  if t = 8 then (match als, st with
  | [.inr (.inr (.inl (al0, w0, cl0))), .inl x1, .inl x2, .inl x3, .inl x4, _], [] => if al0 = 1 ∧ cl0 = 0 then j8 w0 x1 x2 x3 x4 M else none
  | _, _ => none) else
  none
set_option maxRecDepth 1000000 in
theorem eW_firstFree (j8 : Nat → Int32 → Int32 → Int32 → Int32 → Mem → Option (Int32 × Mem)) (w0 : Nat) (x1 : Int32) (x2 : Int32) (M : Mem) : run (cW_firstFree) (KW_firstFree j8) rtI 400 (seek (cW_firstFree) 0) [aR (1, w0, 0), aI x1, aI x2, aU, aU, aU] [] M = mW_firstFreeb j8 w0 x1 x2 M := id rfl
theorem lW_firstFree {E : EV} {l : Launch} {p : Program} {e : Env} {s : State} {m : MethodId} {args : Array Value} {below : List Frame} {meth : Method} {c : Code} (A : AllOK E l 4 "FreeLances$World" prog_11_method_24_code 6 (some .int) outI (cW_firstFree)) (C : Cx E p s m args meth c "FreeLances$World" prog_11_method_24_code 6 (some .int)) : ∀ (w0 : Nat) (x1 : Int32) (x2 : Int32) (M : Mem) (res : (Int32 × Mem)), mW_firstFree w0 x1 x2 M = some res → Wm E p l e 4 s m args below meth c 6 0 [aR (1, w0, 0), aI x1, aI x2, aU, aU, aU] [] M (outI res).1 (outI res).2 := by
  intro w0 x1 x2 M res h
  refine run_at C A rfl hrtI (n := 400) ((eW_firstFree (mW_firstFree_8 fuel) w0 x1 x2 M).trans h) ?_
  intro t als st M hk
  unfold KW_firstFree at hk
  split at hk
  · rename_i ht
    subst ht
    split at hk
    · split at hk
      · rename_i hc
        obtain ⟨rfl, rfl⟩ := hc
        exact lW_firstFree_8 A C _ _ _ _ _ _ _ _ hk _
      · cases hk
    · cases hk
  cases hk
def dW_firstFree {β : Type} : Den β := fun as M k => match as with
  | [.inr (.inr (.inl (al0, w0, cl0))), .inl x1, .inl x2] => if al0 = 1 ∧ cl0 = 0 then (mW_firstFree w0 x1 x2 M).bind fun q => k (aI q.1) q.2 else none
  | _ => none
theorem wW_firstFree {E : EV} (hsd : E.2.2.2 = 0) (l : Launch) (w0 : Nat) (x1 : Int32) (x2 : Int32) (M : Mem) (q : (Int32 × Mem)) (hq : mW_firstFree w0 x1 x2 M = some q) : Con E l 4 yW_firstFree prog_11_method_24_code 6 (some .int) [aR (1, w0, 0), aI x1, aI x2] M (outI q).1 (outI q).2 := by
  refine con_of iW_firstFree (Nat.le_of_ble_eq_true rfl) ?_
  intro p e s m args below meth c C
  exact lW_firstFree (oW_firstFree hsd l) C w0 x1 x2 M _ hq
theorem kW_firstFree {E : EV} (hsd : E.2.2.2 = 0) (l : Launch) {β : Type} : DenOK E l 4 yW_firstFree prog_11_method_24_code 6 (some .int) true (dW_firstFree (β := β)) := by
  intro as M k res h
  unfold dW_firstFree at h
  split at h
  ·
    split at h
    · rename_i hc
      obtain ⟨rfl, rfl⟩ := hc
      obtain ⟨q, hq, hk⟩ := Option.bind_eq_some_iff.mp h
      exact ⟨aI q.1, q.2, hk, rfl, wW_firstFree hsd l _ _ _ M q hq⟩
    · cases h
  · cases h
theorem qW_firstFree {β : Type} : RecOK 1 (dW_firstFree (β := β)) := by
  intro as M k res h
  unfold dW_firstFree at h
  split at h
  ·
    split at h
    · rename_i hc
      obtain ⟨rfl, rfl⟩ := hc
      exact ⟨_, _, _, rfl⟩
    · cases h
  · cases h
/-! ===== FreeLances.free(IZ)I ===== -/
abbrev yF_free : MethodName := ⟨"FreeLances", "free", "(IZ)I"⟩
theorem iF_free : MI yF_free prog_1_method_32_code 4 (some .int) 2 := ⟨tw902, tw97, ⟨by decide, by decide⟩, by decide +kernel, by decide, by decide⟩
def cF_free : List (Ent (Int32 × Mem)) := [(false, 0, 1, sLdA 0),
  (false, 1, 1, sLdI 1),
  (false, 2, 3, sInv 2 true dF_isCompany),
  (false, 5, 3, sIfNe 14),
  (false, 8, 1, sLdA 0),
  (false, 9, 1, sC 1),
  (false, 10, 3, sInv 2 true dF_finding),
  (false, 13, 1, sRetI),
  (false, 14, 1, sLdA 0),
  (false, 15, 3, sGet 0 (fun w i M => aR (1, 0, 0))),
  (false, 18, 1, sLdI 1),
  (false, 19, 1, sLdI 2),
  (false, 20, 3, sInv 3 true dW_firstFree),
  (false, 23, 1, sStI 3),
  (false, 24, 1, sLdI 3),
  (false, 25, 3, sC 3000),
  (false, 28, 3, sCmpLe 39),
  (false, 31, 1, sLdA 0),
  (false, 32, 1, sC 2),
  (false, 33, 3, sInv 2 true dF_finding),
  (false, 36, 3, sGoto 40),
  (false, 39, 1, sLdI 3),
  (false, 40, 1, sRetI)]
theorem oF_free {E : EV} (hsd : E.2.2.2 = 0) (l : Launch) : AllOK E l 5 "FreeLances" prog_1_method_32_code 4 (some .int) outI (cF_free) := by
  refine ak (ok_aload_n (k := 0) rfl (by decide +kernel)) ?_
  refine ak (ok_iload_n (k := 1) rfl (by decide +kernel)) ?_
  refine ak (ok_invV (r := 0) (kF_isCompany hsd l) qF_isCompany ck10 kd0 iF_isCompany tw620 tw2 (by decide) tw618 (by decide +kernel)) ?_
  refine ak (ok_if_ne (off := 9) (by decide) (by decide +kernel)) ?_
  refine ak (ok_aload_n (k := 0) rfl (by decide +kernel)) ?_
  refine ak (ok_iconst (n := 1) (by decide) (by decide +kernel)) ?_
  refine ak (ok_invV (r := 0) (kF_finding hsd l) qF_finding ck10 kd0 iF_finding tw557 tw0 (by decide) tw555 (by decide +kernel)) ?_
  refine ak (ok_ireturn rfl (by decide +kernel)) ?_
  refine ak (ok_aload_n (k := 0) rfl (by decide +kernel)) ?_
  refine ak (ok_get (k := 0) ck10 kd0 (by decide) (fun _ _ _ => rfl) (vf_0_0 hsd) tw522 (by decide +kernel)) ?_
  refine ak (ok_iload_n (k := 1) rfl (by decide +kernel)) ?_
  refine ak (ok_iload_n (k := 2) rfl (by decide +kernel)) ?_
  refine ak (ok_invV (r := 1) (kW_firstFree hsd l) qW_firstFree ck9 kd1 iW_firstFree tw904 tw905 (by decide) tw903 (by decide +kernel)) ?_
  refine ak (ok_istore_n (k := 3) rfl (by decide) (by decide +kernel)) ?_
  refine ak (ok_iload_n (k := 3) rfl (by decide +kernel)) ?_
  refine ak (ok_sipush (n := 3000) (by decide) (by decide +kernel)) ?_
  refine ak (ok_icmp_le (off := 11) (by decide) (by decide +kernel)) ?_
  refine ak (ok_aload_n (k := 0) rfl (by decide +kernel)) ?_
  refine ak (ok_iconst (n := 2) (by decide) (by decide +kernel)) ?_
  refine ak (ok_invV (r := 0) (kF_finding hsd l) qF_finding ck10 kd0 iF_finding tw557 tw0 (by decide) tw555 (by decide +kernel)) ?_
  refine ak (ok_goto (off := 4) (by decide) (by decide +kernel)) ?_
  refine ak (ok_iload_n (k := 3) rfl (by decide +kernel)) ?_
  refine ak (ok_ireturn rfl (by decide +kernel)) ?_
  exact trivial
set_option maxRecDepth 1000000 in
theorem eF_free (x1 : Int32) (x2 : Int32) (M : Mem) : run (cF_free) (fun _ _ _ _ => none) rtI 400 (seek (cF_free) 0) [aR (0, 0, 0), aI x1, aI x2, aU] [] M = mF_free x1 x2 M := id rfl
theorem lF_free {E : EV} {l : Launch} {p : Program} {e : Env} {s : State} {m : MethodId} {args : Array Value} {below : List Frame} {meth : Method} {c : Code} (A : AllOK E l 5 "FreeLances" prog_1_method_32_code 4 (some .int) outI (cF_free)) (C : Cx E p s m args meth c "FreeLances" prog_1_method_32_code 4 (some .int)) : ∀ (x1 : Int32) (x2 : Int32) (M : Mem) (res : (Int32 × Mem)), mF_free x1 x2 M = some res → Wm E p l e 5 s m args below meth c 4 0 [aR (0, 0, 0), aI x1, aI x2, aU] [] M (outI res).1 (outI res).2 := by
  intro x1 x2 M res h
  refine run_at C A rfl hrtI (n := 400) ((eF_free x1 x2 M).trans h) ?_
  intro t als st M hk; cases hk
def dF_free {β : Type} : Den β := fun as M k => match as with
  | [.inr (.inr (.inl (al0, bl0, cl0))), .inl x1, .inl x2] => if al0 = 0 ∧ bl0 = 0 ∧ cl0 = 0 then (mF_free x1 x2 M).bind fun q => k (aI q.1) q.2 else none
  | _ => none
theorem wF_free {E : EV} (hsd : E.2.2.2 = 0) (l : Launch) (x1 : Int32) (x2 : Int32) (M : Mem) (q : (Int32 × Mem)) (hq : mF_free x1 x2 M = some q) : Con E l 5 yF_free prog_1_method_32_code 4 (some .int) [aR (0, 0, 0), aI x1, aI x2] M (outI q).1 (outI q).2 := by
  refine con_of iF_free (Nat.le_of_ble_eq_true rfl) ?_
  intro p e s m args below meth c C
  exact lF_free (oF_free hsd l) C x1 x2 M _ hq
theorem kF_free {E : EV} (hsd : E.2.2.2 = 0) (l : Launch) {β : Type} : DenOK E l 5 yF_free prog_1_method_32_code 4 (some .int) true (dF_free (β := β)) := by
  intro as M k res h
  unfold dF_free at h
  split at h
  ·
    split at h
    · rename_i hc
      obtain ⟨rfl, rfl, rfl⟩ := hc
      obtain ⟨q, hq, hk⟩ := Option.bind_eq_some_iff.mp h
      exact ⟨aI q.1, q.2, hk, rfl, wF_free hsd l _ _ M q hq⟩
    · cases h
  · cases h
theorem qF_free {β : Type} : RecOK 0 (dF_free (β := β)) := by
  intro as M k res h
  unfold dF_free at h
  split at h
  ·
    split at h
    · rename_i hc
      obtain ⟨rfl, rfl, rfl⟩ := hc
      exact ⟨_, _, _, rfl⟩
    · cases h
  · cases h
/-! ===== FreeLances.isSheet(I)Z ===== -/
abbrev yF_isSheet : MethodName := ⟨"FreeLances", "isSheet", "(I)Z"⟩
theorem iF_isSheet : MI yF_isSheet prog_1_method_62_code 1 (some .boolean) 1 := ⟨tw917, tw97, ⟨by decide, by decide⟩, by decide +kernel, by decide, by decide⟩
def cF_isSheet : List (Ent (Int32 × Mem)) := [(false, 0, 1, sLdI 0),
  (false, 1, 1, sC 0),
  (false, 2, 1, sC 3),
  (false, 3, 3, sInv 3 true dF_within),
  (false, 6, 1, sRetZ)]
theorem oF_isSheet {E : EV} (hsd : E.2.2.2 = 0) (l : Launch) : AllOK E l 2 "FreeLances" prog_1_method_62_code 1 (some .boolean) outI (cF_isSheet) := by
  refine ak (ok_iload_n (k := 0) rfl (by decide +kernel)) ?_
  refine ak (ok_iconst (n := 0) (by decide) (by decide +kernel)) ?_
  refine ak (ok_iconst (n := 3) (by decide) (by decide +kernel)) ?_
  refine ak (ok_invS (kF_within hsd l) iF_within tw553 (by decide) tw552 (by decide +kernel)) ?_
  refine ak (ok_zreturn rfl (by decide +kernel)) ?_
  exact trivial
set_option maxRecDepth 1000000 in
theorem eF_isSheet (x0 : Int32) (M : Mem) : run (cF_isSheet) (fun _ _ _ _ => none) rtI 400 (seek (cF_isSheet) 0) [aI x0] [] M = mF_isSheet x0 M := id rfl
theorem lF_isSheet {E : EV} {l : Launch} {p : Program} {e : Env} {s : State} {m : MethodId} {args : Array Value} {below : List Frame} {meth : Method} {c : Code} (A : AllOK E l 2 "FreeLances" prog_1_method_62_code 1 (some .boolean) outI (cF_isSheet)) (C : Cx E p s m args meth c "FreeLances" prog_1_method_62_code 1 (some .boolean)) : ∀ (x0 : Int32) (M : Mem) (res : (Int32 × Mem)), mF_isSheet x0 M = some res → Wm E p l e 2 s m args below meth c 1 0 [aI x0] [] M (outI res).1 (outI res).2 := by
  intro x0 M res h
  refine run_at C A rfl hrtI (n := 400) ((eF_isSheet x0 M).trans h) ?_
  intro t als st M hk; cases hk
def dF_isSheet {β : Type} : Den β := fun as M k => match as with
  | [.inl x0] => (mF_isSheet x0 M).bind fun q => k (aI q.1) q.2
  | _ => none
theorem wF_isSheet {E : EV} (hsd : E.2.2.2 = 0) (l : Launch) (x0 : Int32) (M : Mem) (q : (Int32 × Mem)) (hq : mF_isSheet x0 M = some q) : Con E l 2 yF_isSheet prog_1_method_62_code 1 (some .boolean) [aI x0] M (outI q).1 (outI q).2 := by
  refine con_of iF_isSheet (Nat.le_of_ble_eq_true rfl) ?_
  intro p e s m args below meth c C
  exact lF_isSheet (oF_isSheet hsd l) C x0 M _ hq
theorem kF_isSheet {E : EV} (hsd : E.2.2.2 = 0) (l : Launch) {β : Type} : DenOK E l 2 yF_isSheet prog_1_method_62_code 1 (some .boolean) true (dF_isSheet (β := β)) := by
  intro as M k res h
  unfold dF_isSheet at h
  split at h
  · obtain ⟨q, hq, hk⟩ := Option.bind_eq_some_iff.mp h
    exact ⟨aI q.1, q.2, hk, rfl, wF_isSheet hsd l _ M q hq⟩
  · cases h
/-! ===== FreeLances$Sheet.missing()Z ===== -/
abbrev yS_missing : MethodName := ⟨"FreeLances$Sheet", "missing", "()Z"⟩
theorem iS_missing : MI yS_missing prog_7_method_3_code 1 (some .boolean) 0 := ⟨tw921, tw105, ⟨by decide, by decide⟩, by decide +kernel, by decide, by decide⟩
def cS_missing : List (Ent (Int32 × Mem)) := [(false, 0, 1, sLdA 0),
  (false, 1, 3, sGet 19 (fun w i M => aI (M 19 w i 0))),
  (false, 4, 3, sIfNe 11),
  (false, 7, 1, sC 1),
  (false, 8, 3, sGoto 12),
  (false, 11, 1, sC 0),
  (false, 12, 1, sRetZ)]
theorem oS_missing {E : EV} (hsd : E.2.2.2 = 0) (l : Launch) : AllOK E l 1 "FreeLances$Sheet" prog_7_method_3_code 1 (some .boolean) outI (cS_missing) := by
  refine ak (ok_aload_n (k := 0) rfl (by decide +kernel)) ?_
  refine ak (ok_get (k := 0) ck5 kd19 (by decide) (fun _ _ _ => rfl) (fun _ _ _ _ _ => trivial) tw468 (by decide +kernel)) ?_
  refine ak (ok_if_ne (off := 7) (by decide) (by decide +kernel)) ?_
  refine ak (ok_iconst (n := 1) (by decide) (by decide +kernel)) ?_
  refine ak (ok_goto (off := 4) (by decide) (by decide +kernel)) ?_
  refine ak (ok_iconst (n := 0) (by decide) (by decide +kernel)) ?_
  refine ak (ok_zreturn rfl (by decide +kernel)) ?_
  exact trivial
set_option maxRecDepth 1000000 in
theorem eS_missing (i0 : Nat) (M : Mem) : run (cS_missing) (fun _ _ _ _ => none) rtI 400 (seek (cS_missing) 0) [aR (19, 0, i0)] [] M = mS_missing i0 M := id rfl
theorem lS_missing {E : EV} {l : Launch} {p : Program} {e : Env} {s : State} {m : MethodId} {args : Array Value} {below : List Frame} {meth : Method} {c : Code} (A : AllOK E l 1 "FreeLances$Sheet" prog_7_method_3_code 1 (some .boolean) outI (cS_missing)) (C : Cx E p s m args meth c "FreeLances$Sheet" prog_7_method_3_code 1 (some .boolean)) : ∀ (i0 : Nat) (M : Mem) (res : (Int32 × Mem)), mS_missing i0 M = some res → Wm E p l e 1 s m args below meth c 1 0 [aR (19, 0, i0)] [] M (outI res).1 (outI res).2 := by
  intro i0 M res h
  refine run_at C A rfl hrtI (n := 400) ((eS_missing i0 M).trans h) ?_
  intro t als st M hk; cases hk
def dS_missing {β : Type} : Den β := fun as M k => match as with
  | [.inr (.inr (.inl (al0, bl0, i0)))] => if al0 = 19 ∧ bl0 = 0 then (mS_missing i0 M).bind fun q => k (aI q.1) q.2 else none
  | _ => none
theorem wS_missing {E : EV} (hsd : E.2.2.2 = 0) (l : Launch) (i0 : Nat) (M : Mem) (q : (Int32 × Mem)) (hq : mS_missing i0 M = some q) : Con E l 1 yS_missing prog_7_method_3_code 1 (some .boolean) [aR (19, 0, i0)] M (outI q).1 (outI q).2 := by
  refine con_of iS_missing (Nat.le_of_ble_eq_true rfl) ?_
  intro p e s m args below meth c C
  exact lS_missing (oS_missing hsd l) C i0 M _ hq
theorem kS_missing {E : EV} (hsd : E.2.2.2 = 0) (l : Launch) {β : Type} : DenOK E l 1 yS_missing prog_7_method_3_code 1 (some .boolean) true (dS_missing (β := β)) := by
  intro as M k res h
  unfold dS_missing at h
  split at h
  ·
    split at h
    · rename_i hc
      obtain ⟨rfl, rfl⟩ := hc
      obtain ⟨q, hq, hk⟩ := Option.bind_eq_some_iff.mp h
      exact ⟨aI q.1, q.2, hk, rfl, wS_missing hsd l _ M q hq⟩
    · cases h
  · cases h
theorem qS_missing {β : Type} : RecOK 19 (dS_missing (β := β)) := by
  intro as M k res h
  unfold dS_missing at h
  split at h
  ·
    split at h
    · rename_i hc
      obtain ⟨rfl, rfl⟩ := hc
      exact ⟨_, _, _, rfl⟩
    · cases h
  · cases h
/-! ===== FreeLances$Sheet.allWithin(II)Z ===== -/
abbrev yS_allWithin : MethodName := ⟨"FreeLances$Sheet", "allWithin", "(II)Z"⟩
theorem iS_allWithin : MI yS_allWithin prog_7_method_6_code 4 (some .boolean) 2 := ⟨tw925, tw105, ⟨by decide, by decide⟩, by decide +kernel, by decide, by decide⟩
def cS_allWithin : List (Ent (Int32 × Mem)) := [(false, 0, 1, sC 0),
  (false, 1, 1, sStI 3),
  (true, 2, 1, sLdI 3),
  (false, 3, 1, sLdA 0),
  (false, 4, 3, sGet 19 (fun w i M => aI (M 19 w i 1))),
  (false, 7, 3, sCmpGe 32),
  (false, 10, 1, sLdA 0),
  (false, 11, 3, sGet 19 (fun w i M => aR (20, w, i))),
  (false, 14, 1, sLdI 3),
  (false, 15, 1, sIald 20 24),
  (false, 16, 1, sLdI 1),
  (false, 17, 1, sLdI 2),
  (false, 18, 3, sInv 3 true dF_within),
  (false, 21, 3, sIfNe 26),
  (false, 24, 1, sC 0),
  (false, 25, 1, sRetZ),
  (false, 26, 3, sInc 3 1),
  (false, 29, 3, sGoto 2),
  (false, 32, 1, sC 1),
  (false, 33, 1, sRetZ)]
theorem oS_allWithin {E : EV} (hsd : E.2.2.2 = 0) (l : Launch) : AllOK E l 2 "FreeLances$Sheet" prog_7_method_6_code 4 (some .boolean) outI (cS_allWithin) := by
  refine ak (ok_iconst (n := 0) (by decide) (by decide +kernel)) ?_
  refine ak (ok_istore_n (k := 3) rfl (by decide) (by decide +kernel)) ?_
  refine ak (ok_iload_n (k := 3) rfl (by decide +kernel)) ?_
  refine ak (ok_aload_n (k := 0) rfl (by decide +kernel)) ?_
  refine ak (ok_get (k := 1) ck5 kd19 (by decide) (fun _ _ _ => rfl) (fun _ _ _ _ _ => trivial) tw470 (by decide +kernel)) ?_
  refine ak (ok_icmp_ge (off := 25) (by decide) (by decide +kernel)) ?_
  refine ak (ok_aload_n (k := 0) rfl (by decide +kernel)) ?_
  refine ak (ok_get (k := 2) ck5 kd19 (by decide) (fun _ _ _ => rfl) (vf_19_2 hsd) tw474 (by decide +kernel)) ?_
  refine ak (ok_iload_n (k := 3) rfl (by decide +kernel)) ?_
  refine ak (ok_iald kd20 (by decide) (by decide +kernel)) ?_
  refine ak (ok_iload_n (k := 1) rfl (by decide +kernel)) ?_
  refine ak (ok_iload_n (k := 2) rfl (by decide +kernel)) ?_
  refine ak (ok_invSN (kF_within hsd l) iF_within tw553 (by decide) tw926 (by decide +kernel)) ?_
  refine ak (ok_if_ne (off := 5) (by decide) (by decide +kernel)) ?_
  refine ak (ok_iconst (n := 0) (by decide) (by decide +kernel)) ?_
  refine ak (ok_zreturn rfl (by decide +kernel)) ?_
  refine ak (ok_iinc (n := 1) (by decide) (by decide) (by decide +kernel)) ?_
  refine ak (ok_goto (off := (-27)) (by decide) (by decide +kernel)) ?_
  refine ak (ok_iconst (n := 1) (by decide) (by decide +kernel)) ?_
  refine ak (ok_zreturn rfl (by decide +kernel)) ?_
  exact trivial
def KS_allWithin_2 (j2 : Nat → Int32 → Int32 → Int32 → Mem → Option (Int32 × Mem)) : Jm (Int32 × Mem) := fun t als st M =>
  if t = 2 then (match als, st with
  | [.inr (.inr (.inl (al0, bl0, i0))), .inl x1, .inl x2, .inl x3], [] => if al0 = 19 ∧ bl0 = 0 then j2 i0 x1 x2 x3 M else none
  | _, _ => none) else
  none
set_option maxRecDepth 1000000 in
theorem eS_allWithin_2 (j2 : Nat → Int32 → Int32 → Int32 → Mem → Option (Int32 × Mem)) (i0 : Nat) (x1 : Int32) (x2 : Int32) (x3 : Int32) (M : Mem) : run (cS_allWithin) (KS_allWithin_2 j2) rtI 400 (seek (cS_allWithin) 2) [aR (19, 0, i0), aI x1, aI x2, aI x3] [] M = mS_allWithin_2b j2 i0 x1 x2 x3 M := id rfl
theorem lS_allWithin_2 {E : EV} {l : Launch} {p : Program} {e : Env} {s : State} {m : MethodId} {args : Array Value} {below : List Frame} {meth : Method} {c : Code} (A : AllOK E l 2 "FreeLances$Sheet" prog_7_method_6_code 4 (some .boolean) outI (cS_allWithin)) (C : Cx E p s m args meth c "FreeLances$Sheet" prog_7_method_6_code 4 (some .boolean)) : ∀ (n : Nat), ∀ (i0 : Nat) (x1 : Int32) (x2 : Int32) (x3 : Int32) (M : Mem) (res : (Int32 × Mem)), mS_allWithin_2 n i0 x1 x2 x3 M = some res → Wm E p l e 2 s m args below meth c 4 2 [aR (19, 0, i0), aI x1, aI x2, aI x3] [] M (outI res).1 (outI res).2 := by
  intro n
  induction n with
  | zero => intro _ _ _ _ M res h; cases h
  | succ n ih =>
    intro i0 x1 x2 x3 M res h
    refine run_at C A rfl hrtI (n := 400) ((eS_allWithin_2 (mS_allWithin_2 n) i0 x1 x2 x3 M).trans h) ?_
    intro t als st M hk
    unfold KS_allWithin_2 at hk
    split at hk
    · rename_i ht
      subst ht
      split at hk
      · split at hk
        · rename_i hc
          obtain ⟨rfl, rfl⟩ := hc
          exact ih _ _ _ _ _ _ hk
        · cases hk
      · cases hk
    cases hk
def KS_allWithin (j2 : Nat → Int32 → Int32 → Int32 → Mem → Option (Int32 × Mem)) : Jm (Int32 × Mem) := fun t als st M =>
  if t = 2 then (match als, st with
  | [.inr (.inr (.inl (al0, bl0, i0))), .inl x1, .inl x2, .inl x3], [] => if al0 = 19 ∧ bl0 = 0 then j2 i0 x1 x2 x3 M else none
  | _, _ => none) else
  none
set_option maxRecDepth 1000000 in
theorem eS_allWithin (j2 : Nat → Int32 → Int32 → Int32 → Mem → Option (Int32 × Mem)) (i0 : Nat) (x1 : Int32) (x2 : Int32) (M : Mem) : run (cS_allWithin) (KS_allWithin j2) rtI 400 (seek (cS_allWithin) 0) [aR (19, 0, i0), aI x1, aI x2, aU] [] M = mS_allWithinb j2 i0 x1 x2 M := id rfl
theorem lS_allWithin {E : EV} {l : Launch} {p : Program} {e : Env} {s : State} {m : MethodId} {args : Array Value} {below : List Frame} {meth : Method} {c : Code} (A : AllOK E l 2 "FreeLances$Sheet" prog_7_method_6_code 4 (some .boolean) outI (cS_allWithin)) (C : Cx E p s m args meth c "FreeLances$Sheet" prog_7_method_6_code 4 (some .boolean)) : ∀ (i0 : Nat) (x1 : Int32) (x2 : Int32) (M : Mem) (res : (Int32 × Mem)), mS_allWithin i0 x1 x2 M = some res → Wm E p l e 2 s m args below meth c 4 0 [aR (19, 0, i0), aI x1, aI x2, aU] [] M (outI res).1 (outI res).2 := by
  intro i0 x1 x2 M res h
  refine run_at C A rfl hrtI (n := 400) ((eS_allWithin (mS_allWithin_2 fuel) i0 x1 x2 M).trans h) ?_
  intro t als st M hk
  unfold KS_allWithin at hk
  split at hk
  · rename_i ht
    subst ht
    split at hk
    · split at hk
      · rename_i hc
        obtain ⟨rfl, rfl⟩ := hc
        exact lS_allWithin_2 A C _ _ _ _ _ _ _ hk
      · cases hk
    · cases hk
  cases hk
def dS_allWithin {β : Type} : Den β := fun as M k => match as with
  | [.inr (.inr (.inl (al0, bl0, i0))), .inl x1, .inl x2] => if al0 = 19 ∧ bl0 = 0 then (mS_allWithin i0 x1 x2 M).bind fun q => k (aI q.1) q.2 else none
  | _ => none
theorem wS_allWithin {E : EV} (hsd : E.2.2.2 = 0) (l : Launch) (i0 : Nat) (x1 : Int32) (x2 : Int32) (M : Mem) (q : (Int32 × Mem)) (hq : mS_allWithin i0 x1 x2 M = some q) : Con E l 2 yS_allWithin prog_7_method_6_code 4 (some .boolean) [aR (19, 0, i0), aI x1, aI x2] M (outI q).1 (outI q).2 := by
  refine con_of iS_allWithin (Nat.le_of_ble_eq_true rfl) ?_
  intro p e s m args below meth c C
  exact lS_allWithin (oS_allWithin hsd l) C i0 x1 x2 M _ hq
theorem kS_allWithin {E : EV} (hsd : E.2.2.2 = 0) (l : Launch) {β : Type} : DenOK E l 2 yS_allWithin prog_7_method_6_code 4 (some .boolean) true (dS_allWithin (β := β)) := by
  intro as M k res h
  unfold dS_allWithin at h
  split at h
  ·
    split at h
    · rename_i hc
      obtain ⟨rfl, rfl⟩ := hc
      obtain ⟨q, hq, hk⟩ := Option.bind_eq_some_iff.mp h
      exact ⟨aI q.1, q.2, hk, rfl, wS_allWithin hsd l _ _ _ M q hq⟩
    · cases h
  · cases h
theorem qS_allWithin {β : Type} : RecOK 19 (dS_allWithin (β := β)) := by
  intro as M k res h
  unfold dS_allWithin at h
  split at h
  ·
    split at h
    · rename_i hc
      obtain ⟨rfl, rfl⟩ := hc
      exact ⟨_, _, _, rfl⟩
    · cases h
  · cases h
