/-! ===== FreeLances$Reader.single(I)I ===== -/
def cR_single (rR_opened : Nat → Int32 → Int32 → Mem → Option (Int32 × Mem)) : List (Ent (Int32 × Mem)) := [(false, 0, 1, sLdA 0),
  (false, 1, 3, sInv 1 true dR_sign),
  (false, 4, 1, sStI 2),
  (false, 5, 1, sLdI 2),
  (false, 6, 2, sC 48),
  (false, 8, 3, sCmpLt 22),
  (false, 11, 1, sLdI 2),
  (false, 12, 2, sC 57),
  (false, 14, 3, sCmpGt 22),
  (false, 17, 1, sLdA 0),
  (false, 18, 3, sInv 1 true dR_number),
  (false, 21, 1, sRetI),
  (true, 22, 1, sLdI 2),
  (false, 23, 2, sC 33),
  (false, 25, 3, sCmpEq 34),
  (false, 28, 1, sLdI 2),
  (false, 29, 2, sC 40),
  (false, 31, 3, sCmpNe 41),
  (false, 34, 1, sLdA 0),
  (false, 35, 1, sLdI 2),
  (false, 36, 1, sLdI 1),
  (false, 37, 3, sInv 3 true (dR_opened rR_opened)),
  (false, 40, 1, sRetI),
  (false, 41, 1, sLdA 0),
  (false, 42, 1, sLdI 2),
  (false, 43, 3, sInv 2 true dR_nameOf),
  (false, 46, 1, sStI 3),
  (false, 47, 1, sLdI 3),
  (false, 48, 3, sIfGe 61),
  (false, 51, 1, sLdA 0),
  (false, 52, 1, sLdA 0),
  (false, 53, 3, sGet 17 (fun w i M => aI (M 17 w i 6))),
  (false, 56, 3, sPut 17 7),
  (false, 59, 1, sC 0),
  (false, 60, 1, sRetI),
  (false, 61, 1, sLdA 0),
  (false, 62, 1, sDup),
  (false, 63, 3, sGet 17 (fun w i M => aI (M 17 w i 6))),
  (false, 66, 1, sC 1),
  (false, 67, 1, sBin (fun x y => x + y)),
  (false, 68, 3, sPut 17 6),
  (false, 71, 1, sLdI 3),
  (false, 72, 3, sIfNe 82),
  (false, 75, 1, sLdA 0),
  (false, 76, 3, sGet 17 (fun w i M => aI (M 17 w i 3))),
  (false, 79, 3, sGoto 98),
  (false, 82, 1, sLdI 3),
  (false, 83, 1, sC 1),
  (false, 84, 3, sCmpNe 94),
  (false, 87, 1, sLdA 0),
  (false, 88, 3, sGet 17 (fun w i M => aI (M 17 w i 4))),
  (false, 91, 3, sGoto 98),
  (false, 94, 1, sLdA 0),
  (false, 95, 3, sGet 17 (fun w i M => aI (M 17 w i 5))),
  (false, 98, 1, sRetI)]
theorem oR_single {E : EV} (hsd : E.2.2.2 = 0) (l : Launch) (D : Nat) (hD : 2 ≤ D) (rR_opened : Nat → Int32 → Int32 → Mem → Option (Int32 × Mem)) (hR_opened : ∀ {β : Type}, DenOK E l D yR_opened prog_6_method_13_code 4 (some .int) true (dR_opened (β := β) rR_opened)) : AllOK E l (D + 1) "FreeLances$Reader" prog_6_method_12_code 4 (some .int) outI (cR_single rR_opened) := by
  refine ak (ok_aload_n (k := 0) rfl (by decide +kernel)) ?_
  refine ak (ok_invV (r := 17) (kR_sign hsd l) qR_sign ck4 kd17 iR_sign tw725 tw12 (by omega) tw723 (by decide +kernel)) ?_
  refine ak (ok_istore_n (k := 2) rfl (by decide) (by decide +kernel)) ?_
  refine ak (ok_iload_n (k := 2) rfl (by decide +kernel)) ?_
  refine ak (ok_bipush (n := 48) (by decide) (by decide +kernel)) ?_
  refine ak (ok_icmp_lt (off := 14) (by decide) (by decide +kernel)) ?_
  refine ak (ok_iload_n (k := 2) rfl (by decide +kernel)) ?_
  refine ak (ok_bipush (n := 57) (by decide) (by decide +kernel)) ?_
  refine ak (ok_icmp_gt (off := 8) (by decide) (by decide +kernel)) ?_
  refine ak (ok_aload_n (k := 0) rfl (by decide +kernel)) ?_
  refine ak (ok_invV (r := 17) (kR_number hsd l) qR_number ck4 kd17 iR_number tw729 tw13 (by omega) tw727 (by decide +kernel)) ?_
  refine ak (ok_ireturn rfl (by decide +kernel)) ?_
  refine ak (ok_iload_n (k := 2) rfl (by decide +kernel)) ?_
  refine ak (ok_bipush (n := 33) (by decide) (by decide +kernel)) ?_
  refine ak (ok_icmp_eq (off := 9) (by decide) (by decide +kernel)) ?_
  refine ak (ok_iload_n (k := 2) rfl (by decide +kernel)) ?_
  refine ak (ok_bipush (n := 40) (by decide) (by decide +kernel)) ?_
  refine ak (ok_icmp_ne (off := 10) (by decide) (by decide +kernel)) ?_
  refine ak (ok_aload_n (k := 0) rfl (by decide +kernel)) ?_
  refine ak (ok_iload_n (k := 2) rfl (by decide +kernel)) ?_
  refine ak (ok_iload_n (k := 1) rfl (by decide +kernel)) ?_
  refine ak (ok_invV (r := 17) hR_opened (qR_opened rR_opened) ck4 kd17 iR_opened tw733 tw14 (by omega) tw731 (by decide +kernel)) ?_
  refine ak (ok_ireturn rfl (by decide +kernel)) ?_
  refine ak (ok_aload_n (k := 0) rfl (by decide +kernel)) ?_
  refine ak (ok_iload_n (k := 2) rfl (by decide +kernel)) ?_
  refine ak (ok_invV (r := 17) (kR_nameOf hsd l) qR_nameOf ck4 kd17 iR_nameOf tw737 tw15 (by omega) tw735 (by decide +kernel)) ?_
  refine ak (ok_istore_n (k := 3) rfl (by decide) (by decide +kernel)) ?_
  refine ak (ok_iload_n (k := 3) rfl (by decide +kernel)) ?_
  refine ak (ok_if_ge (off := 13) (by decide) (by decide +kernel)) ?_
  refine ak (ok_aload_n (k := 0) rfl (by decide +kernel)) ?_
  refine ak (ok_aload_n (k := 0) rfl (by decide +kernel)) ?_
  refine ak (ok_get (k := 6) ck4 kd17 (by decide) (fun _ _ _ => rfl) (fun _ _ _ _ _ => trivial) tw148 (by decide +kernel)) ?_
  refine ak (ok_put (k := 7) ck4 kd17 (by decide) (fun _ _ _ => rfl) rfl rfl (by decide) tw149 (by decide +kernel)) ?_
  refine ak (ok_iconst (n := 0) (by decide) (by decide +kernel)) ?_
  refine ak (ok_ireturn rfl (by decide +kernel)) ?_
  refine ak (ok_aload_n (k := 0) rfl (by decide +kernel)) ?_
  refine ak (ok_dup (by decide +kernel)) ?_
  refine ak (ok_get (k := 6) ck4 kd17 (by decide) (fun _ _ _ => rfl) (fun _ _ _ _ _ => trivial) tw148 (by decide +kernel)) ?_
  refine ak (ok_iconst (n := 1) (by decide) (by decide +kernel)) ?_
  refine ak (ok_iadd (by decide +kernel)) ?_
  refine ak (ok_put (k := 6) ck4 kd17 (by decide) (fun _ _ _ => rfl) rfl rfl (by decide) tw148 (by decide +kernel)) ?_
  refine ak (ok_iload_n (k := 3) rfl (by decide +kernel)) ?_
  refine ak (ok_if_ne (off := 10) (by decide) (by decide +kernel)) ?_
  refine ak (ok_aload_n (k := 0) rfl (by decide +kernel)) ?_
  refine ak (ok_get (k := 3) ck4 kd17 (by decide) (fun _ _ _ => rfl) (fun _ _ _ _ _ => trivial) tw145 (by decide +kernel)) ?_
  refine ak (ok_goto (off := 19) (by decide) (by decide +kernel)) ?_
  refine ak (ok_iload_n (k := 3) rfl (by decide +kernel)) ?_
  refine ak (ok_iconst (n := 1) (by decide) (by decide +kernel)) ?_
  refine ak (ok_icmp_ne (off := 10) (by decide) (by decide +kernel)) ?_
  refine ak (ok_aload_n (k := 0) rfl (by decide +kernel)) ?_
  refine ak (ok_get (k := 4) ck4 kd17 (by decide) (fun _ _ _ => rfl) (fun _ _ _ _ _ => trivial) tw146 (by decide +kernel)) ?_
  refine ak (ok_goto (off := 7) (by decide) (by decide +kernel)) ?_
  refine ak (ok_aload_n (k := 0) rfl (by decide +kernel)) ?_
  refine ak (ok_get (k := 5) ck4 kd17 (by decide) (fun _ _ _ => rfl) (fun _ _ _ _ _ => trivial) tw147 (by decide +kernel)) ?_
  refine ak (ok_ireturn rfl (by decide +kernel)) ?_
  exact trivial
set_option maxRecDepth 1000000 in
theorem eR_single_22 (rR_opened : Nat → Int32 → Int32 → Mem → Option (Int32 × Mem)) (w0 : Nat) (x1 : Int32) (x2 : Int32) (M : Mem) (u3 : AV) : run (cR_single rR_opened) (fun _ _ _ _ => none) rtI 400 (seek (cR_single rR_opened) 22) [aR (17, w0, 0), aI x1, aI x2, u3] [] M = mR_single_22b rR_opened w0 x1 x2 M := id rfl
theorem lR_single_22 {E : EV} {l : Launch} {p : Program} {e : Env} {s : State} {m : MethodId} {args : Array Value} {below : List Frame} {meth : Method} {c : Code} {D : Nat} (rR_opened : Nat → Int32 → Int32 → Mem → Option (Int32 × Mem)) (A : AllOK E l (D + 1) "FreeLances$Reader" prog_6_method_12_code 4 (some .int) outI (cR_single rR_opened)) (C : Cx E p s m args meth c "FreeLances$Reader" prog_6_method_12_code 4 (some .int)) : ∀ (w0 : Nat) (x1 : Int32) (x2 : Int32) (M : Mem) (res : (Int32 × Mem)), mR_single_22 rR_opened w0 x1 x2 M = some res → ∀ (u3 : AV), Wm E p l e (D + 1) s m args below meth c 4 22 [aR (17, w0, 0), aI x1, aI x2, u3] [] M (outI res).1 (outI res).2 := by
  intro w0 x1 x2 M res h u3
  refine run_at C A rfl hrtI (n := 400) ((eR_single_22 rR_opened w0 x1 x2 M u3).trans h) ?_
  intro t als st M hk; cases hk
def KR_single (j22 : Nat → Int32 → Int32 → Mem → Option (Int32 × Mem)) : Jm (Int32 × Mem) := fun t als st M =>
  if t = 22 then (match als, st with
  | [.inr (.inr (.inl (al0, w0, cl0))), .inl x1, .inl x2, _], [] => if al0 = 17 ∧ cl0 = 0 then j22 w0 x1 x2 M else none
  | _, _ => none) else
  none
set_option maxRecDepth 1000000 in
theorem eR_single (rR_opened : Nat → Int32 → Int32 → Mem → Option (Int32 × Mem)) (j22 : Nat → Int32 → Int32 → Mem → Option (Int32 × Mem)) (w0 : Nat) (x1 : Int32) (M : Mem) : run (cR_single rR_opened) (KR_single j22) rtI 400 (seek (cR_single rR_opened) 0) [aR (17, w0, 0), aI x1, aU, aU] [] M = mR_singleb rR_opened j22 w0 x1 M := id rfl
theorem lR_single {E : EV} {l : Launch} {p : Program} {e : Env} {s : State} {m : MethodId} {args : Array Value} {below : List Frame} {meth : Method} {c : Code} {D : Nat} (rR_opened : Nat → Int32 → Int32 → Mem → Option (Int32 × Mem)) (A : AllOK E l (D + 1) "FreeLances$Reader" prog_6_method_12_code 4 (some .int) outI (cR_single rR_opened)) (C : Cx E p s m args meth c "FreeLances$Reader" prog_6_method_12_code 4 (some .int)) : ∀ (w0 : Nat) (x1 : Int32) (M : Mem) (res : (Int32 × Mem)), mR_single rR_opened w0 x1 M = some res → Wm E p l e (D + 1) s m args below meth c 4 0 [aR (17, w0, 0), aI x1, aU, aU] [] M (outI res).1 (outI res).2 := by
  intro w0 x1 M res h
  refine run_at C A rfl hrtI (n := 400) ((eR_single rR_opened (mR_single_22 rR_opened) w0 x1 M).trans h) ?_
  intro t als st M hk
  unfold KR_single at hk
  split at hk
  · rename_i ht
    subst ht
    split at hk
    · split at hk
      · rename_i hc
        obtain ⟨rfl, rfl⟩ := hc
        exact lR_single_22 _ A C _ _ _ _ _ hk _
      · cases hk
    · cases hk
  cases hk
theorem wR_single {E : EV} (hsd : E.2.2.2 = 0) (l : Launch) (D : Nat) (hD : 2 ≤ D) (rR_opened : Nat → Int32 → Int32 → Mem → Option (Int32 × Mem)) (hR_opened : ∀ {β : Type}, DenOK E l D yR_opened prog_6_method_13_code 4 (some .int) true (dR_opened (β := β) rR_opened)) (w0 : Nat) (x1 : Int32) (M : Mem) (q : (Int32 × Mem)) (hq : mR_single rR_opened w0 x1 M = some q) : Con E l (D + 1) yR_single prog_6_method_12_code 4 (some .int) [aR (17, w0, 0), aI x1] M (outI q).1 (outI q).2 := by
  refine con_of iR_single (Nat.le_of_ble_eq_true rfl) ?_
  intro p e s m args below meth c C
  exact lR_single rR_opened (oR_single hsd l D hD rR_opened hR_opened) C w0 x1 M _ hq
/-! ===== FreeLances$Reader.opened(II)I ===== -/
def cR_opened (rR_either : Nat → Int32 → Mem → Option (Int32 × Mem)) (rR_single : Nat → Int32 → Mem → Option (Int32 × Mem)) : List (Ent (Int32 × Mem)) := [(false, 0, 1, sLdI 2),
  (false, 1, 1, sC 5),
  (false, 2, 3, sCmpLt 15),
  (false, 5, 1, sLdA 0),
  (false, 6, 1, sLdA 0),
  (false, 7, 3, sGet 17 (fun w i M => aI (M 17 w i 6))),
  (false, 10, 3, sPut 17 7),
  (false, 13, 1, sC 0),
  (false, 14, 1, sRetI),
  (false, 15, 1, sLdA 0),
  (false, 16, 1, sDup),
  (false, 17, 3, sGet 17 (fun w i M => aI (M 17 w i 6))),
  (false, 20, 1, sC 1),
  (false, 21, 1, sBin (fun x y => x + y)),
  (false, 22, 3, sPut 17 6),
  (false, 25, 1, sLdI 1),
  (false, 26, 2, sC 33),
  (false, 28, 3, sCmpNe 47),
  (false, 31, 1, sLdA 0),
  (false, 32, 1, sLdI 2),
  (false, 33, 1, sC 1),
  (false, 34, 1, sBin (fun x y => x + y)),
  (false, 35, 3, sInv 2 true (dR_single rR_single)),
  (false, 38, 3, sIfNe 45),
  (false, 41, 1, sC 1),
  (false, 42, 3, sGoto 46),
  (false, 45, 1, sC 0),
  (false, 46, 1, sRetI),
  (false, 47, 1, sLdA 0),
  (false, 48, 1, sLdI 2),
  (false, 49, 1, sC 1),
  (false, 50, 1, sBin (fun x y => x + y)),
  (false, 51, 3, sInv 2 true (dR_either rR_either)),
  (false, 54, 1, sStI 3),
  (false, 55, 1, sLdA 0),
  (false, 56, 3, sGet 17 (fun w i M => aI (M 17 w i 7))),
  (false, 59, 3, sIfGe 84),
  (false, 62, 1, sLdA 0),
  (false, 63, 3, sInv 1 true dR_sign),
  (false, 66, 2, sC 41),
  (false, 68, 3, sCmpNe 84),
  (false, 71, 1, sLdA 0),
  (false, 72, 1, sDup),
  (false, 73, 3, sGet 17 (fun w i M => aI (M 17 w i 6))),
  (false, 76, 1, sC 1),
  (false, 77, 1, sBin (fun x y => x + y)),
  (false, 78, 3, sPut 17 6),
  (false, 81, 3, sGoto 99),
  (false, 84, 1, sLdA 0),
  (false, 85, 3, sGet 17 (fun w i M => aI (M 17 w i 7))),
  (false, 88, 3, sIfGe 99),
  (false, 91, 1, sLdA 0),
  (false, 92, 1, sLdA 0),
  (false, 93, 3, sGet 17 (fun w i M => aI (M 17 w i 6))),
  (false, 96, 3, sPut 17 7),
  (false, 99, 1, sLdI 3),
  (false, 100, 1, sRetI)]
theorem oR_opened {E : EV} (hsd : E.2.2.2 = 0) (l : Launch) (D : Nat) (hD : 2 ≤ D) (rR_either : Nat → Int32 → Mem → Option (Int32 × Mem)) (rR_single : Nat → Int32 → Mem → Option (Int32 × Mem)) (hR_either : ∀ {β : Type}, DenOK E l D yR_either prog_6_method_7_code 5 (some .int) true (dR_either (β := β) rR_either)) (hR_single : ∀ {β : Type}, DenOK E l D yR_single prog_6_method_12_code 4 (some .int) true (dR_single (β := β) rR_single)) : AllOK E l (D + 1) "FreeLances$Reader" prog_6_method_13_code 4 (some .int) outI (cR_opened rR_either rR_single) := by
  refine ak (ok_iload_n (k := 2) rfl (by decide +kernel)) ?_
  refine ak (ok_iconst (n := 5) (by decide) (by decide +kernel)) ?_
  refine ak (ok_icmp_lt (off := 13) (by decide) (by decide +kernel)) ?_
  refine ak (ok_aload_n (k := 0) rfl (by decide +kernel)) ?_
  refine ak (ok_aload_n (k := 0) rfl (by decide +kernel)) ?_
  refine ak (ok_get (k := 6) ck4 kd17 (by decide) (fun _ _ _ => rfl) (fun _ _ _ _ _ => trivial) tw148 (by decide +kernel)) ?_
  refine ak (ok_put (k := 7) ck4 kd17 (by decide) (fun _ _ _ => rfl) rfl rfl (by decide) tw149 (by decide +kernel)) ?_
  refine ak (ok_iconst (n := 0) (by decide) (by decide +kernel)) ?_
  refine ak (ok_ireturn rfl (by decide +kernel)) ?_
  refine ak (ok_aload_n (k := 0) rfl (by decide +kernel)) ?_
  refine ak (ok_dup (by decide +kernel)) ?_
  refine ak (ok_get (k := 6) ck4 kd17 (by decide) (fun _ _ _ => rfl) (fun _ _ _ _ _ => trivial) tw148 (by decide +kernel)) ?_
  refine ak (ok_iconst (n := 1) (by decide) (by decide +kernel)) ?_
  refine ak (ok_iadd (by decide +kernel)) ?_
  refine ak (ok_put (k := 6) ck4 kd17 (by decide) (fun _ _ _ => rfl) rfl rfl (by decide) tw148 (by decide +kernel)) ?_
  refine ak (ok_iload_n (k := 1) rfl (by decide +kernel)) ?_
  refine ak (ok_bipush (n := 33) (by decide) (by decide +kernel)) ?_
  refine ak (ok_icmp_ne (off := 19) (by decide) (by decide +kernel)) ?_
  refine ak (ok_aload_n (k := 0) rfl (by decide +kernel)) ?_
  refine ak (ok_iload_n (k := 2) rfl (by decide +kernel)) ?_
  refine ak (ok_iconst (n := 1) (by decide) (by decide +kernel)) ?_
  refine ak (ok_iadd (by decide +kernel)) ?_
  refine ak (ok_invV (r := 17) hR_single (qR_single rR_single) ck4 kd17 iR_single tw721 tw11 (by omega) tw719 (by decide +kernel)) ?_
  refine ak (ok_if_ne (off := 7) (by decide) (by decide +kernel)) ?_
  refine ak (ok_iconst (n := 1) (by decide) (by decide +kernel)) ?_
  refine ak (ok_goto (off := 4) (by decide) (by decide +kernel)) ?_
  refine ak (ok_iconst (n := 0) (by decide) (by decide +kernel)) ?_
  refine ak (ok_ireturn rfl (by decide +kernel)) ?_
  refine ak (ok_aload_n (k := 0) rfl (by decide +kernel)) ?_
  refine ak (ok_iload_n (k := 2) rfl (by decide +kernel)) ?_
  refine ak (ok_iconst (n := 1) (by decide) (by decide +kernel)) ?_
  refine ak (ok_iadd (by decide +kernel)) ?_
  refine ak (ok_invV (r := 17) hR_either (qR_either rR_either) ck4 kd17 iR_either tw701 tw6 (by omega) tw699 (by decide +kernel)) ?_
  refine ak (ok_istore_n (k := 3) rfl (by decide) (by decide +kernel)) ?_
  refine ak (ok_aload_n (k := 0) rfl (by decide +kernel)) ?_
  refine ak (ok_get (k := 7) ck4 kd17 (by decide) (fun _ _ _ => rfl) (fun _ _ _ _ _ => trivial) tw149 (by decide +kernel)) ?_
  refine ak (ok_if_ge (off := 25) (by decide) (by decide +kernel)) ?_
  refine ak (ok_aload_n (k := 0) rfl (by decide +kernel)) ?_
  refine ak (ok_invV (r := 17) (kR_sign hsd l) qR_sign ck4 kd17 iR_sign tw725 tw12 (by omega) tw723 (by decide +kernel)) ?_
  refine ak (ok_bipush (n := 41) (by decide) (by decide +kernel)) ?_
  refine ak (ok_icmp_ne (off := 16) (by decide) (by decide +kernel)) ?_
  refine ak (ok_aload_n (k := 0) rfl (by decide +kernel)) ?_
  refine ak (ok_dup (by decide +kernel)) ?_
  refine ak (ok_get (k := 6) ck4 kd17 (by decide) (fun _ _ _ => rfl) (fun _ _ _ _ _ => trivial) tw148 (by decide +kernel)) ?_
  refine ak (ok_iconst (n := 1) (by decide) (by decide +kernel)) ?_
  refine ak (ok_iadd (by decide +kernel)) ?_
  refine ak (ok_put (k := 6) ck4 kd17 (by decide) (fun _ _ _ => rfl) rfl rfl (by decide) tw148 (by decide +kernel)) ?_
  refine ak (ok_goto (off := 18) (by decide) (by decide +kernel)) ?_
  refine ak (ok_aload_n (k := 0) rfl (by decide +kernel)) ?_
  refine ak (ok_get (k := 7) ck4 kd17 (by decide) (fun _ _ _ => rfl) (fun _ _ _ _ _ => trivial) tw149 (by decide +kernel)) ?_
  refine ak (ok_if_ge (off := 11) (by decide) (by decide +kernel)) ?_
  refine ak (ok_aload_n (k := 0) rfl (by decide +kernel)) ?_
  refine ak (ok_aload_n (k := 0) rfl (by decide +kernel)) ?_
  refine ak (ok_get (k := 6) ck4 kd17 (by decide) (fun _ _ _ => rfl) (fun _ _ _ _ _ => trivial) tw148 (by decide +kernel)) ?_
  refine ak (ok_put (k := 7) ck4 kd17 (by decide) (fun _ _ _ => rfl) rfl rfl (by decide) tw149 (by decide +kernel)) ?_
  refine ak (ok_iload_n (k := 3) rfl (by decide +kernel)) ?_
  refine ak (ok_ireturn rfl (by decide +kernel)) ?_
  exact trivial
set_option maxRecDepth 1000000 in
theorem eR_opened (rR_either : Nat → Int32 → Mem → Option (Int32 × Mem)) (rR_single : Nat → Int32 → Mem → Option (Int32 × Mem)) (w0 : Nat) (x1 : Int32) (x2 : Int32) (M : Mem) : run (cR_opened rR_either rR_single) (fun _ _ _ _ => none) rtI 400 (seek (cR_opened rR_either rR_single) 0) [aR (17, w0, 0), aI x1, aI x2, aU] [] M = mR_opened rR_either rR_single w0 x1 x2 M := id rfl
theorem lR_opened {E : EV} {l : Launch} {p : Program} {e : Env} {s : State} {m : MethodId} {args : Array Value} {below : List Frame} {meth : Method} {c : Code} {D : Nat} (rR_either : Nat → Int32 → Mem → Option (Int32 × Mem)) (rR_single : Nat → Int32 → Mem → Option (Int32 × Mem)) (A : AllOK E l (D + 1) "FreeLances$Reader" prog_6_method_13_code 4 (some .int) outI (cR_opened rR_either rR_single)) (C : Cx E p s m args meth c "FreeLances$Reader" prog_6_method_13_code 4 (some .int)) : ∀ (w0 : Nat) (x1 : Int32) (x2 : Int32) (M : Mem) (res : (Int32 × Mem)), mR_opened rR_either rR_single w0 x1 x2 M = some res → Wm E p l e (D + 1) s m args below meth c 4 0 [aR (17, w0, 0), aI x1, aI x2, aU] [] M (outI res).1 (outI res).2 := by
  intro w0 x1 x2 M res h
  refine run_at C A rfl hrtI (n := 400) ((eR_opened rR_either rR_single w0 x1 x2 M).trans h) ?_
  intro t als st M hk; cases hk
theorem wR_opened {E : EV} (hsd : E.2.2.2 = 0) (l : Launch) (D : Nat) (hD : 2 ≤ D) (rR_either : Nat → Int32 → Mem → Option (Int32 × Mem)) (rR_single : Nat → Int32 → Mem → Option (Int32 × Mem)) (hR_either : ∀ {β : Type}, DenOK E l D yR_either prog_6_method_7_code 5 (some .int) true (dR_either (β := β) rR_either)) (hR_single : ∀ {β : Type}, DenOK E l D yR_single prog_6_method_12_code 4 (some .int) true (dR_single (β := β) rR_single)) (w0 : Nat) (x1 : Int32) (x2 : Int32) (M : Mem) (q : (Int32 × Mem)) (hq : mR_opened rR_either rR_single w0 x1 x2 M = some q) : Con E l (D + 1) yR_opened prog_6_method_13_code 4 (some .int) [aR (17, w0, 0), aI x1, aI x2] M (outI q).1 (outI q).2 := by
  refine con_of iR_opened (Nat.le_of_ble_eq_true rfl) ?_
  intro p e s m args below meth c C
  exact lR_opened rR_either rR_single (oR_opened hsd l D hD rR_either rR_single hR_either hR_single) C w0 x1 x2 M _ hq
theorem g1_con {E : EV} (hsd : E.2.2.2 = 0) (l : Launch) : ∀ n : Nat, (∀ (w0 : Nat) (x1 : Int32) (M : Mem) (q : (Int32 × Mem)), g1 n 0 w0 x1 0 M = some q → Con E l (2 + n) yR_either prog_6_method_7_code 5 (some .int) [aR (17, w0, 0), aI x1] M (outI q).1 (outI q).2) ∧ (∀ (w0 : Nat) (x1 : Int32) (M : Mem) (q : (Int32 × Mem)), g1 n 1 w0 x1 0 M = some q → Con E l (2 + n) yR_both prog_6_method_8_code 5 (some .int) [aR (17, w0, 0), aI x1] M (outI q).1 (outI q).2) ∧ (∀ (w0 : Nat) (x1 : Int32) (M : Mem) (q : (Int32 × Mem)), g1 n 2 w0 x1 0 M = some q → Con E l (2 + n) yR_compared prog_6_method_9_code 6 (some .int) [aR (17, w0, 0), aI x1] M (outI q).1 (outI q).2) ∧ (∀ (w0 : Nat) (x1 : Int32) (M : Mem) (q : (Int32 × Mem)), g1 n 3 w0 x1 0 M = some q → Con E l (2 + n) yR_added prog_6_method_10_code 6 (some .int) [aR (17, w0, 0), aI x1] M (outI q).1 (outI q).2) ∧ (∀ (w0 : Nat) (x1 : Int32) (M : Mem) (q : (Int32 × Mem)), g1 n 4 w0 x1 0 M = some q → Con E l (2 + n) yR_multiplied prog_6_method_11_code 6 (some .int) [aR (17, w0, 0), aI x1] M (outI q).1 (outI q).2) ∧ (∀ (w0 : Nat) (x1 : Int32) (M : Mem) (q : (Int32 × Mem)), g1 n 5 w0 x1 0 M = some q → Con E l (2 + n) yR_single prog_6_method_12_code 4 (some .int) [aR (17, w0, 0), aI x1] M (outI q).1 (outI q).2) ∧ (∀ (w0 : Nat) (x1 : Int32) (x2 : Int32) (M : Mem) (q : (Int32 × Mem)), g1 n 6 w0 x1 x2 M = some q → Con E l (2 + n) yR_opened prog_6_method_13_code 4 (some .int) [aR (17, w0, 0), aI x1, aI x2] M (outI q).1 (outI q).2) := by
  intro n
  induction n with
  | zero => exact ⟨(fun _ _ _ _ h => by cases h), (fun _ _ _ _ h => by cases h), (fun _ _ _ _ h => by cases h), (fun _ _ _ _ h => by cases h), (fun _ _ _ _ h => by cases h), (fun _ _ _ _ h => by cases h), (fun _ _ _ _ _ h => by cases h)⟩
  | succ n ih =>
    obtain ⟨ih0, ih1, ih2, ih3, ih4, ih5, ih6⟩ := ih
    exact ⟨(fun w0 x1 M q h => wR_either hsd l (2 + n) (by omega) _ (kR_both ih1) w0 x1 M q h), (fun w0 x1 M q h => wR_both hsd l (2 + n) (by omega) _ (kR_compared ih2) w0 x1 M q h), (fun w0 x1 M q h => wR_compared hsd l (2 + n) (by omega) _ (kR_added ih3) w0 x1 M q h), (fun w0 x1 M q h => wR_added hsd l (2 + n) (by omega) _ (kR_multiplied ih4) w0 x1 M q h), (fun w0 x1 M q h => wR_multiplied hsd l (2 + n) (by omega) _ (kR_single ih5) w0 x1 M q h), (fun w0 x1 M q h => wR_single hsd l (2 + n) (by omega) _ (kR_opened ih6) w0 x1 M q h), (fun w0 x1 x2 M q h => wR_opened hsd l (2 + n) (by omega) _ _ (kR_either ih0) (kR_single ih5) w0 x1 x2 M q h)⟩
theorem kxR_either {E : EV} (hsd : E.2.2.2 = 0) (l : Launch) {β : Type} : DenOK E l 62 yR_either prog_6_method_7_code 5 (some .int) true (dR_either (β := β) xR_either) := kR_either (fun w0 x1 M q h => (g1_con hsd l 60).1 w0 x1 M q h)
theorem kxR_both {E : EV} (hsd : E.2.2.2 = 0) (l : Launch) {β : Type} : DenOK E l 62 yR_both prog_6_method_8_code 5 (some .int) true (dR_both (β := β) xR_both) := kR_both (fun w0 x1 M q h => (g1_con hsd l 60).2.1 w0 x1 M q h)
theorem kxR_compared {E : EV} (hsd : E.2.2.2 = 0) (l : Launch) {β : Type} : DenOK E l 62 yR_compared prog_6_method_9_code 6 (some .int) true (dR_compared (β := β) xR_compared) := kR_compared (fun w0 x1 M q h => (g1_con hsd l 60).2.2.1 w0 x1 M q h)
theorem kxR_added {E : EV} (hsd : E.2.2.2 = 0) (l : Launch) {β : Type} : DenOK E l 62 yR_added prog_6_method_10_code 6 (some .int) true (dR_added (β := β) xR_added) := kR_added (fun w0 x1 M q h => (g1_con hsd l 60).2.2.2.1 w0 x1 M q h)
theorem kxR_multiplied {E : EV} (hsd : E.2.2.2 = 0) (l : Launch) {β : Type} : DenOK E l 62 yR_multiplied prog_6_method_11_code 6 (some .int) true (dR_multiplied (β := β) xR_multiplied) := kR_multiplied (fun w0 x1 M q h => (g1_con hsd l 60).2.2.2.2.1 w0 x1 M q h)
theorem kxR_single {E : EV} (hsd : E.2.2.2 = 0) (l : Launch) {β : Type} : DenOK E l 62 yR_single prog_6_method_12_code 4 (some .int) true (dR_single (β := β) xR_single) := kR_single (fun w0 x1 M q h => (g1_con hsd l 60).2.2.2.2.2.1 w0 x1 M q h)
theorem kxR_opened {E : EV} (hsd : E.2.2.2 = 0) (l : Launch) {β : Type} : DenOK E l 62 yR_opened prog_6_method_13_code 4 (some .int) true (dR_opened (β := β) xR_opened) := kR_opened (fun w0 x1 x2 M q h => (g1_con hsd l 60).2.2.2.2.2.2 w0 x1 x2 M q h)
/-! ===== FreeLances$Reader.workOut(LFreeLances$Statute;III)I ===== -/
abbrev yR_workOut : MethodName := ⟨"FreeLances$Reader", "workOut", "(LFreeLances$Statute;III)I"⟩
theorem iR_workOut : MI yR_workOut prog_6_method_2_code 5 (some .int) 4 := ⟨tw693, tw99, ⟨by decide, by decide⟩, by decide +kernel, by decide, by decide⟩
def cR_workOut : List (Ent (Int32 × Mem)) := [(false, 0, 1, sLdA 0),
  (false, 1, 1, sLdI 2),
  (false, 2, 3, sPut 17 3),
  (false, 5, 1, sLdA 0),
  (false, 6, 1, sLdI 3),
  (false, 7, 3, sPut 17 4),
  (false, 10, 1, sLdA 0),
  (false, 11, 2, sLdI 4),
  (false, 13, 3, sPut 17 5),
  (false, 16, 1, sLdA 0),
  (false, 17, 1, sLdA 1),
  (false, 18, 3, sGet 12 (fun w i M => aR (13, w, i))),
  (false, 21, 1, sLdA 1),
  (false, 22, 3, sGet 12 (fun w i M => aI (M 12 w i 2))),
  (false, 25, 1, sLdA 1),
  (false, 26, 3, sGet 12 (fun w i M => aI (M 12 w i 0))),
  (false, 29, 3, sInv 4 false dR_begin),
  (false, 32, 1, sLdA 0),
  (false, 33, 1, sC 0),
  (false, 34, 3, sInv 2 true (dR_either xR_either)),
  (false, 37, 1, sRetI)]
theorem oR_workOut {E : EV} (hsd : E.2.2.2 = 0) (l : Launch) : AllOK E l 63 "FreeLances$Reader" prog_6_method_2_code 5 (some .int) outI (cR_workOut) := by
  refine ak (ok_aload_n (k := 0) rfl (by decide +kernel)) ?_
  refine ak (ok_iload_n (k := 2) rfl (by decide +kernel)) ?_
  refine ak (ok_put (k := 3) ck4 kd17 (by decide) (fun _ _ _ => rfl) rfl rfl (by decide) tw145 (by decide +kernel)) ?_
  refine ak (ok_aload_n (k := 0) rfl (by decide +kernel)) ?_
  refine ak (ok_iload_n (k := 3) rfl (by decide +kernel)) ?_
  refine ak (ok_put (k := 4) ck4 kd17 (by decide) (fun _ _ _ => rfl) rfl rfl (by decide) tw146 (by decide +kernel)) ?_
  refine ak (ok_aload_n (k := 0) rfl (by decide +kernel)) ?_
  refine ak (ok_iload (by decide +kernel)) ?_
  refine ak (ok_put (k := 5) ck4 kd17 (by decide) (fun _ _ _ => rfl) rfl rfl (by decide) tw147 (by decide +kernel)) ?_
  refine ak (ok_aload_n (k := 0) rfl (by decide +kernel)) ?_
  refine ak (ok_aload_n (k := 1) rfl (by decide +kernel)) ?_
  refine ak (ok_get (k := 3) ck6 kd12 (by decide) (fun _ _ _ => rfl) (vf_12_3 hsd) tw309 (by decide +kernel)) ?_
  refine ak (ok_aload_n (k := 1) rfl (by decide +kernel)) ?_
  refine ak (ok_get (k := 2) ck6 kd12 (by decide) (fun _ _ _ => rfl) (fun _ _ _ _ _ => trivial) tw307 (by decide +kernel)) ?_
  refine ak (ok_aload_n (k := 1) rfl (by decide +kernel)) ?_
  refine ak (ok_get (k := 0) ck6 kd12 (by decide) (fun _ _ _ => rfl) (fun _ _ _ _ _ => trivial) tw302 (by decide +kernel)) ?_
  refine ak (ok_invV (r := 17) (kR_begin hsd l) qR_begin ck4 kd17 iR_begin tw696 tw5 (by decide) tw694 (by decide +kernel)) ?_
  refine ak (ok_aload_n (k := 0) rfl (by decide +kernel)) ?_
  refine ak (ok_iconst (n := 0) (by decide) (by decide +kernel)) ?_
  refine ak (ok_invV (r := 17) (kxR_either hsd l) (qR_either xR_either) ck4 kd17 iR_either tw701 tw6 (by decide) tw699 (by decide +kernel)) ?_
  refine ak (ok_ireturn rfl (by decide +kernel)) ?_
  exact trivial
set_option maxRecDepth 1000000 in
theorem eR_workOut (w0 : Nat) (w1 : Nat) (i1 : Nat) (x2 : Int32) (x3 : Int32) (x4 : Int32) (M : Mem) : run (cR_workOut) (fun _ _ _ _ => none) rtI 400 (seek (cR_workOut) 0) [aR (17, w0, 0), aR (12, w1, i1), aI x2, aI x3, aI x4] [] M = mR_workOut w0 w1 i1 x2 x3 x4 M := id rfl
theorem lR_workOut {E : EV} {l : Launch} {p : Program} {e : Env} {s : State} {m : MethodId} {args : Array Value} {below : List Frame} {meth : Method} {c : Code} (A : AllOK E l 63 "FreeLances$Reader" prog_6_method_2_code 5 (some .int) outI (cR_workOut)) (C : Cx E p s m args meth c "FreeLances$Reader" prog_6_method_2_code 5 (some .int)) : ∀ (w0 : Nat) (w1 : Nat) (i1 : Nat) (x2 : Int32) (x3 : Int32) (x4 : Int32) (M : Mem) (res : (Int32 × Mem)), mR_workOut w0 w1 i1 x2 x3 x4 M = some res → Wm E p l e 63 s m args below meth c 5 0 [aR (17, w0, 0), aR (12, w1, i1), aI x2, aI x3, aI x4] [] M (outI res).1 (outI res).2 := by
  intro w0 w1 i1 x2 x3 x4 M res h
  refine run_at C A rfl hrtI (n := 400) ((eR_workOut w0 w1 i1 x2 x3 x4 M).trans h) ?_
  intro t als st M hk; cases hk
def dR_workOut {β : Type} : Den β := fun as M k => match as with
  | [.inr (.inr (.inl (al0, w0, cl0))), .inr (.inr (.inl (al1, w1, i1))), .inl x2, .inl x3, .inl x4] => if al0 = 17 ∧ cl0 = 0 ∧ al1 = 12 then (mR_workOut w0 w1 i1 x2 x3 x4 M).bind fun q => k (aI q.1) q.2 else none
  | _ => none
theorem wR_workOut {E : EV} (hsd : E.2.2.2 = 0) (l : Launch) (w0 : Nat) (w1 : Nat) (i1 : Nat) (x2 : Int32) (x3 : Int32) (x4 : Int32) (M : Mem) (q : (Int32 × Mem)) (hq : mR_workOut w0 w1 i1 x2 x3 x4 M = some q) : Con E l 63 yR_workOut prog_6_method_2_code 5 (some .int) [aR (17, w0, 0), aR (12, w1, i1), aI x2, aI x3, aI x4] M (outI q).1 (outI q).2 := by
  refine con_of iR_workOut (Nat.le_of_ble_eq_true rfl) ?_
  intro p e s m args below meth c C
  exact lR_workOut (oR_workOut hsd l) C w0 w1 i1 x2 x3 x4 M _ hq
theorem kR_workOut {E : EV} (hsd : E.2.2.2 = 0) (l : Launch) {β : Type} : DenOK E l 63 yR_workOut prog_6_method_2_code 5 (some .int) true (dR_workOut (β := β)) := by
  intro as M k res h
  unfold dR_workOut at h
  split at h
  ·
    split at h
    · rename_i hc
      obtain ⟨rfl, rfl, rfl⟩ := hc
      obtain ⟨q, hq, hk⟩ := Option.bind_eq_some_iff.mp h
      exact ⟨aI q.1, q.2, hk, rfl, wR_workOut hsd l _ _ _ _ _ _ M q hq⟩
    · cases h
  · cases h
theorem qR_workOut {β : Type} : RecOK 17 (dR_workOut (β := β)) := by
  intro as M k res h
  unfold dR_workOut at h
  split at h
  ·
    split at h
    · rename_i hc
      obtain ⟨rfl, rfl, rfl⟩ := hc
      exact ⟨_, _, _, rfl⟩
    · cases h
  · cases h
