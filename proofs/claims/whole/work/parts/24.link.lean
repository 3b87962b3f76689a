/-! ===== FreeLances$Company.arriveOn(I)V ===== -/
abbrev yC_arriveOn : MethodName := ⟨"FreeLances$Company", "arriveOn", "(I)V"⟩
theorem iC_arriveOn : MI yC_arriveOn prog_3_method_7_code 2 none 1 := ⟨tw1071, tw101, ⟨by decide, by decide⟩, by decide +kernel, by decide, by decide⟩
def cC_arriveOn : List (Ent Mem) := [(false, 0, 1, sLdA 0),
  (false, 1, 3, sInv 1 true dC_marches),
  (false, 4, 3, sIfEq 23),
  (false, 7, 1, sLdA 0),
  (false, 8, 3, sGet 6 (fun w i M => aI (M 6 w i 5))),
  (false, 11, 1, sLdI 1),
  (false, 12, 3, sCmpNe 23),
  (false, 15, 1, sLdA 0),
  (false, 16, 1, sLdA 0),
  (false, 17, 3, sGet 6 (fun w i M => aI (M 6 w i 4))),
  (false, 20, 3, sPut 6 3),
  (false, 23, 1, sRetV)]
theorem oC_arriveOn {E : EV} (hsd : E.2.2.2 = 0) (l : Launch) : AllOK E l 2 "FreeLances$Company" prog_3_method_7_code 2 none outV (cC_arriveOn) := by
  refine ak (ok_aload_n (k := 0) rfl (by decide +kernel)) ?_
  refine ak (ok_invV (r := 6) (kC_marches hsd l) qC_marches ck1 kd6 iC_marches tw623 tw624 (by decide) tw1072 (by decide +kernel)) ?_
  refine ak (ok_if_eq (off := 19) (by decide) (by decide +kernel)) ?_
  refine ak (ok_aload_n (k := 0) rfl (by decide +kernel)) ?_
  refine ak (ok_get (k := 5) ck1 kd6 (by decide) (fun _ _ _ => rfl) (fun _ _ _ _ _ => trivial) tw212 (by decide +kernel)) ?_
  refine ak (ok_iload_n (k := 1) rfl (by decide +kernel)) ?_
  refine ak (ok_icmp_ne (off := 11) (by decide) (by decide +kernel)) ?_
  refine ak (ok_aload_n (k := 0) rfl (by decide +kernel)) ?_
  refine ak (ok_aload_n (k := 0) rfl (by decide +kernel)) ?_
  refine ak (ok_get (k := 4) ck1 kd6 (by decide) (fun _ _ _ => rfl) (fun _ _ _ _ _ => trivial) tw210 (by decide +kernel)) ?_
  refine ak (ok_put (k := 3) ck1 kd6 (by decide) (fun _ _ _ => rfl) rfl rfl (by decide) tw207 (by decide +kernel)) ?_
  refine ak (ok_return rfl (by decide +kernel)) ?_
  exact trivial
set_option maxRecDepth 1000000 in
theorem eC_arriveOn (w0 : Nat) (i0 : Nat) (x1 : Int32) (M : Mem) : run (cC_arriveOn) (fun _ _ _ _ => none) rtV 400 (seek (cC_arriveOn) 0) [aR (6, w0, i0), aI x1] [] M = mC_arriveOn w0 i0 x1 M := id rfl
theorem lC_arriveOn {E : EV} {l : Launch} {p : Program} {e : Env} {s : State} {m : MethodId} {args : Array Value} {below : List Frame} {meth : Method} {c : Code} (A : AllOK E l 2 "FreeLances$Company" prog_3_method_7_code 2 none outV (cC_arriveOn)) (C : Cx E p s m args meth c "FreeLances$Company" prog_3_method_7_code 2 none) : ∀ (w0 : Nat) (i0 : Nat) (x1 : Int32) (M : Mem) (res : Mem), mC_arriveOn w0 i0 x1 M = some res → Wm E p l e 2 s m args below meth c 2 0 [aR (6, w0, i0), aI x1] [] M (outV res).1 (outV res).2 := by
  intro w0 i0 x1 M res h
  refine run_at C A rfl hrtV (n := 400) ((eC_arriveOn w0 i0 x1 M).trans h) ?_
  intro t als st M hk; cases hk
def dC_arriveOn {β : Type} : Den β := fun as M k => match as with
  | [.inr (.inr (.inl (al0, w0, i0))), .inl x1] => if al0 = 6 then (mC_arriveOn w0 i0 x1 M).bind fun q => k aU q else none
  | _ => none
theorem wC_arriveOn {E : EV} (hsd : E.2.2.2 = 0) (l : Launch) (w0 : Nat) (i0 : Nat) (x1 : Int32) (M : Mem) (q : Mem) (hq : mC_arriveOn w0 i0 x1 M = some q) : Con E l 2 yC_arriveOn prog_3_method_7_code 2 none [aR (6, w0, i0), aI x1] M (outV q).1 (outV q).2 := by
  refine con_of iC_arriveOn (Nat.le_of_ble_eq_true rfl) ?_
  intro p e s m args below meth c C
  exact lC_arriveOn (oC_arriveOn hsd l) C w0 i0 x1 M _ hq
theorem kC_arriveOn {E : EV} (hsd : E.2.2.2 = 0) (l : Launch) {β : Type} : DenOK E l 2 yC_arriveOn prog_3_method_7_code 2 none false (dC_arriveOn (β := β)) := by
  intro as M k res h
  unfold dC_arriveOn at h
  split at h
  ·
    split at h
    · rename_i hc
      obtain rfl := hc
      obtain ⟨q, hq, hk⟩ := Option.bind_eq_some_iff.mp h
      exact ⟨aU, q, hk, rfl, wC_arriveOn hsd l _ _ _ M q hq⟩
    · cases h
  · cases h
theorem qC_arriveOn {β : Type} : RecOK 6 (dC_arriveOn (β := β)) := by
  intro as M k res h
  unfold dC_arriveOn at h
  split at h
  ·
    split at h
    · rename_i hc
      obtain rfl := hc
      exact ⟨_, _, _, rfl⟩
    · cases h
  · cases h
/-! ===== FreeLances$World.eat(LFreeLances$Company;)V ===== -/
abbrev yW_eat : MethodName := ⟨"FreeLances$World", "eat", "(LFreeLances$Company;)V"⟩
theorem iW_eat : MI yW_eat prog_11_method_10_code 6 none 1 := ⟨tw1076, tw98, ⟨by decide, by decide⟩, by decide +kernel, by decide, by decide⟩
def cW_eat : List (Ent Mem) := [(false, 0, 1, sLdA 1),
  (false, 1, 3, sGet 6 (fun w i M => aI (M 6 w i 6))),
  (false, 4, 1, sLdA 1),
  (false, 5, 3, sGet 6 (fun w i M => aI (M 6 w i 7))),
  (false, 8, 1, sBin (fun x y => x + y)),
  (false, 9, 1, sStI 2),
  (false, 10, 1, sLdI 2),
  (false, 11, 1, sLdA 1),
  (false, 12, 3, sGet 6 (fun w i M => aI (M 6 w i 1))),
  (false, 15, 3, sMin),
  (false, 18, 1, sStI 3),
  (false, 19, 1, sLdA 1),
  (false, 20, 1, sDup),
  (false, 21, 3, sGet 6 (fun w i M => aI (M 6 w i 1))),
  (false, 24, 1, sLdI 3),
  (false, 25, 1, sBin (fun x y => x - y)),
  (false, 26, 3, sPut 6 1),
  (false, 29, 1, sLdI 2),
  (false, 30, 1, sLdI 3),
  (false, 31, 1, sBin (fun x y => x - y)),
  (false, 32, 1, sStI 2),
  (false, 33, 1, sLdA 1),
  (false, 34, 3, sInv 1 true dC_marches),
  (false, 37, 3, sIfNe 79),
  (false, 40, 1, sLdA 0),
  (false, 41, 3, sGet 1 (fun w i M => aR (2, w, 0))),
  (false, 44, 1, sLdA 1),
  (false, 45, 3, sGet 6 (fun w i M => aI (M 6 w i 3))),
  (false, 48, 1, sAald 2 8 3),
  (false, 49, 2, sStA 4),
  (false, 51, 1, sLdI 2),
  (false, 52, 2, sLdA 4),
  (false, 54, 3, sGet 3 (fun w i M => aI (M 3 w i 1))),
  (false, 57, 3, sMin),
  (false, 60, 2, sStI 5),
  (false, 62, 2, sLdA 4),
  (false, 64, 1, sDup),
  (false, 65, 3, sGet 3 (fun w i M => aI (M 3 w i 1))),
  (false, 68, 2, sLdI 5),
  (false, 70, 1, sBin (fun x y => x - y)),
  (false, 71, 3, sPut 3 1),
  (false, 74, 1, sLdI 2),
  (false, 75, 2, sLdI 5),
  (false, 77, 1, sBin (fun x y => x - y)),
  (false, 78, 1, sStI 2),
  (false, 79, 1, sLdA 1),
  (false, 80, 1, sLdI 2),
  (false, 81, 3, sIfLe 93),
  (false, 84, 1, sLdA 1),
  (false, 85, 3, sGet 6 (fun w i M => aI (M 6 w i 2))),
  (false, 88, 1, sC 1),
  (false, 89, 1, sBin (fun x y => x + y)),
  (false, 90, 3, sGoto 94),
  (false, 93, 1, sC 0),
  (false, 94, 3, sPut 6 2),
  (false, 97, 1, sRetV)]
theorem oW_eat {E : EV} (hsd : E.2.2.2 = 0) (l : Launch) : AllOK E l 2 "FreeLances$World" prog_11_method_10_code 6 none outV (cW_eat) := by
  refine ak (ok_aload_n (k := 1) rfl (by decide +kernel)) ?_
  refine ak (ok_get (k := 6) ck1 kd6 (by decide) (fun _ _ _ => rfl) (fun _ _ _ _ _ => trivial) tw215 (by decide +kernel)) ?_
  refine ak (ok_aload_n (k := 1) rfl (by decide +kernel)) ?_
  refine ak (ok_get (k := 7) ck1 kd6 (by decide) (fun _ _ _ => rfl) (fun _ _ _ _ _ => trivial) tw219 (by decide +kernel)) ?_
  refine ak (ok_iadd (by decide +kernel)) ?_
  refine ak (ok_istore_n (k := 2) rfl (by decide) (by decide +kernel)) ?_
  refine ak (ok_iload_n (k := 2) rfl (by decide +kernel)) ?_
  refine ak (ok_aload_n (k := 1) rfl (by decide +kernel)) ?_
  refine ak (ok_get (k := 1) ck1 kd6 (by decide) (fun _ _ _ => rfl) (fun _ _ _ _ _ => trivial) tw202 (by decide +kernel)) ?_
  refine ak (ok_mmin (by decide) tw580 tw581 tw109 twMmin (by decide +kernel)) ?_
  refine ak (ok_istore_n (k := 3) rfl (by decide) (by decide +kernel)) ?_
  refine ak (ok_aload_n (k := 1) rfl (by decide +kernel)) ?_
  refine ak (ok_dup (by decide +kernel)) ?_
  refine ak (ok_get (k := 1) ck1 kd6 (by decide) (fun _ _ _ => rfl) (fun _ _ _ _ _ => trivial) tw202 (by decide +kernel)) ?_
  refine ak (ok_iload_n (k := 3) rfl (by decide +kernel)) ?_
  refine ak (ok_isub (by decide +kernel)) ?_
  refine ak (ok_put (k := 1) ck1 kd6 (by decide) (fun _ _ _ => rfl) rfl rfl (by decide) tw202 (by decide +kernel)) ?_
  refine ak (ok_iload_n (k := 2) rfl (by decide +kernel)) ?_
  refine ak (ok_iload_n (k := 3) rfl (by decide +kernel)) ?_
  refine ak (ok_isub (by decide +kernel)) ?_
  refine ak (ok_istore_n (k := 2) rfl (by decide) (by decide +kernel)) ?_
  refine ak (ok_aload_n (k := 1) rfl (by decide +kernel)) ?_
  refine ak (ok_invV (r := 6) (kC_marches hsd l) qC_marches ck1 kd6 iC_marches tw623 tw624 (by decide) tw747 (by decide +kernel)) ?_
  refine ak (ok_if_ne (off := 42) (by decide) (by decide +kernel)) ?_
  refine ak (ok_aload_n (k := 0) rfl (by decide +kernel)) ?_
  refine ak (ok_get (k := 1) ck9 kd1 (by decide) (fun _ _ _ => rfl) (vf_1_1 hsd) tw388 (by decide +kernel)) ?_
  refine ak (ok_aload_n (k := 1) rfl (by decide +kernel)) ?_
  refine ak (ok_get (k := 3) ck1 kd6 (by decide) (fun _ _ _ => rfl) (fun _ _ _ _ _ => trivial) tw208 (by decide +kernel)) ?_
  refine ak (ok_aald (t0 := 2) (C := RX7) kd2 (by decide) rfl (vr_2 hsd) (by decide +kernel)) ?_
  refine ak (ok_astore (by decide) (by decide +kernel)) ?_
  refine ak (ok_iload_n (k := 2) rfl (by decide +kernel)) ?_
  refine ak (ok_aload (by decide +kernel)) ?_
  refine ak (ok_get (k := 1) ck7 kd3 (by decide) (fun _ _ _ => rfl) (fun _ _ _ _ _ => trivial) tw179 (by decide +kernel)) ?_
  refine ak (ok_mmin (by decide) tw580 tw581 tw109 twMmin (by decide +kernel)) ?_
  refine ak (ok_istore (by decide) (by decide +kernel)) ?_
  refine ak (ok_aload (by decide +kernel)) ?_
  refine ak (ok_dup (by decide +kernel)) ?_
  refine ak (ok_get (k := 1) ck7 kd3 (by decide) (fun _ _ _ => rfl) (fun _ _ _ _ _ => trivial) tw179 (by decide +kernel)) ?_
  refine ak (ok_iload (by decide +kernel)) ?_
  refine ak (ok_isub (by decide +kernel)) ?_
  refine ak (ok_put (k := 1) ck7 kd3 (by decide) (fun _ _ _ => rfl) rfl rfl (by decide) tw179 (by decide +kernel)) ?_
  refine ak (ok_iload_n (k := 2) rfl (by decide +kernel)) ?_
  refine ak (ok_iload (by decide +kernel)) ?_
  refine ak (ok_isub (by decide +kernel)) ?_
  refine ak (ok_istore_n (k := 2) rfl (by decide) (by decide +kernel)) ?_
  refine ak (ok_aload_n (k := 1) rfl (by decide +kernel)) ?_
  refine ak (ok_iload_n (k := 2) rfl (by decide +kernel)) ?_
  refine ak (ok_if_le (off := 12) (by decide) (by decide +kernel)) ?_
  refine ak (ok_aload_n (k := 1) rfl (by decide +kernel)) ?_
  refine ak (ok_get (k := 2) ck1 kd6 (by decide) (fun _ _ _ => rfl) (fun _ _ _ _ _ => trivial) tw205 (by decide +kernel)) ?_
  refine ak (ok_iconst (n := 1) (by decide) (by decide +kernel)) ?_
  refine ak (ok_iadd (by decide +kernel)) ?_
  refine ak (ok_goto (off := 4) (by decide) (by decide +kernel)) ?_
  refine ak (ok_iconst (n := 0) (by decide) (by decide +kernel)) ?_
  refine ak (ok_put (k := 2) ck1 kd6 (by decide) (fun _ _ _ => rfl) rfl rfl (by decide) tw205 (by decide +kernel)) ?_
  refine ak (ok_return rfl (by decide +kernel)) ?_
  exact trivial
set_option maxRecDepth 1000000 in
theorem eW_eat (w0 : Nat) (w1 : Nat) (i1 : Nat) (M : Mem) : run (cW_eat) (fun _ _ _ _ => none) rtV 400 (seek (cW_eat) 0) [aR (1, w0, 0), aR (6, w1, i1), aU, aU, aU, aU] [] M = mW_eat w0 w1 i1 M := id rfl
theorem lW_eat {E : EV} {l : Launch} {p : Program} {e : Env} {s : State} {m : MethodId} {args : Array Value} {below : List Frame} {meth : Method} {c : Code} (A : AllOK E l 2 "FreeLances$World" prog_11_method_10_code 6 none outV (cW_eat)) (C : Cx E p s m args meth c "FreeLances$World" prog_11_method_10_code 6 none) : ∀ (w0 : Nat) (w1 : Nat) (i1 : Nat) (M : Mem) (res : Mem), mW_eat w0 w1 i1 M = some res → Wm E p l e 2 s m args below meth c 6 0 [aR (1, w0, 0), aR (6, w1, i1), aU, aU, aU, aU] [] M (outV res).1 (outV res).2 := by
  intro w0 w1 i1 M res h
  refine run_at C A rfl hrtV (n := 400) ((eW_eat w0 w1 i1 M).trans h) ?_
  intro t als st M hk; cases hk
def dW_eat {β : Type} : Den β := fun as M k => match as with
  | [.inr (.inr (.inl (al0, w0, cl0))), .inr (.inr (.inl (al1, w1, i1)))] => if al0 = 1 ∧ cl0 = 0 ∧ al1 = 6 then (mW_eat w0 w1 i1 M).bind fun q => k aU q else none
  | _ => none
theorem wW_eat {E : EV} (hsd : E.2.2.2 = 0) (l : Launch) (w0 : Nat) (w1 : Nat) (i1 : Nat) (M : Mem) (q : Mem) (hq : mW_eat w0 w1 i1 M = some q) : Con E l 2 yW_eat prog_11_method_10_code 6 none [aR (1, w0, 0), aR (6, w1, i1)] M (outV q).1 (outV q).2 := by
  refine con_of iW_eat (Nat.le_of_ble_eq_true rfl) ?_
  intro p e s m args below meth c C
  exact lW_eat (oW_eat hsd l) C w0 w1 i1 M _ hq
theorem kW_eat {E : EV} (hsd : E.2.2.2 = 0) (l : Launch) {β : Type} : DenOK E l 2 yW_eat prog_11_method_10_code 6 none false (dW_eat (β := β)) := by
  intro as M k res h
  unfold dW_eat at h
  split at h
  ·
    split at h
    · rename_i hc
      obtain ⟨rfl, rfl, rfl⟩ := hc
      obtain ⟨q, hq, hk⟩ := Option.bind_eq_some_iff.mp h
      exact ⟨aU, q, hk, rfl, wW_eat hsd l _ _ _ M q hq⟩
    · cases h
  · cases h
theorem qW_eat {β : Type} : RecOK 1 (dW_eat (β := β)) := by
  intro as M k res h
  unfold dW_eat at h
  split at h
  ·
    split at h
    · rename_i hc
      obtain ⟨rfl, rfl, rfl⟩ := hc
      exact ⟨_, _, _, rfl⟩
    · cases h
  · cases h
/-! ===== FreeLances$World.turnLeast(III)V ===== -/
abbrev yW_turnLeast : MethodName := ⟨"FreeLances$World", "turnLeast", "(III)V"⟩
theorem iW_turnLeast : MI yW_turnLeast prog_11_method_12_code 5 none 3 := ⟨tw1084, tw98, ⟨by decide, by decide⟩, by decide +kernel, by decide, by decide⟩
def cW_turnLeast : List (Ent Mem) := [(false, 0, 1, sC 0),
  (false, 1, 2, sStI 4),
  (true, 3, 2, sLdI 4),
  (false, 5, 1, sLdA 0),
  (false, 6, 3, sGet 1 (fun w i M => aI (M 1 w i 8))),
  (false, 9, 3, sCmpGe 59),
  (false, 12, 1, sLdA 0),
  (false, 13, 3, sGet 1 (fun w i M => aR (9, w, 0))),
  (false, 16, 2, sLdI 4),
  (false, 18, 1, sAald 9 40 10),
  (false, 19, 3, sGet 10 (fun w i M => aI (M 10 w i 0))),
  (false, 22, 1, sLdI 1),
  (false, 23, 3, sCmpNe 53),
  (false, 26, 1, sLdA 0),
  (false, 27, 3, sGet 1 (fun w i M => aR (9, w, 0))),
  (false, 30, 2, sLdI 4),
  (false, 32, 1, sAald 9 40 10),
  (false, 33, 3, sGet 10 (fun w i M => aI (M 10 w i 3))),
  (false, 36, 1, sLdI 2),
  (false, 37, 3, sCmpNe 53),
  (false, 40, 1, sLdA 0),
  (false, 41, 1, sLdA 0),
  (false, 42, 3, sGet 1 (fun w i M => aR (9, w, 0))),
  (false, 45, 2, sLdI 4),
  (false, 47, 1, sAald 9 40 10),
  (false, 48, 1, sLdI 3),
  (false, 49, 3, sInv 3 false dW_become),
  (false, 52, 1, sRetV),
  (false, 53, 3, sInc 4 1),
  (false, 56, 3, sGoto 3),
  (false, 59, 1, sRetV)]
theorem oW_turnLeast {E : EV} (hsd : E.2.2.2 = 0) (l : Launch) : AllOK E l 3 "FreeLances$World" prog_11_method_12_code 5 none outV (cW_turnLeast) := by
  refine ak (ok_iconst (n := 0) (by decide) (by decide +kernel)) ?_
  refine ak (ok_istore (by decide) (by decide +kernel)) ?_
  refine ak (ok_iload (by decide +kernel)) ?_
  refine ak (ok_aload_n (k := 0) rfl (by decide +kernel)) ?_
  refine ak (ok_get (k := 8) ck9 kd1 (by decide) (fun _ _ _ => rfl) (fun _ _ _ _ _ => trivial) tw404 (by decide +kernel)) ?_
  refine ak (ok_icmp_ge (off := 50) (by decide) (by decide +kernel)) ?_
  refine ak (ok_aload_n (k := 0) rfl (by decide +kernel)) ?_
  refine ak (ok_get (k := 7) ck9 kd1 (by decide) (fun _ _ _ => rfl) (vf_1_7 hsd) tw402 (by decide +kernel)) ?_
  refine ak (ok_iload (by decide +kernel)) ?_
  refine ak (ok_aald (t0 := 4) (C := RX2) kd9 (by decide) rfl (vr_9 hsd) (by decide +kernel)) ?_
  refine ak (ok_get (k := 0) ck2 kd10 (by decide) (fun _ _ _ => rfl) (fun _ _ _ _ _ => trivial) tw272 (by decide +kernel)) ?_
  refine ak (ok_iload_n (k := 1) rfl (by decide +kernel)) ?_
  refine ak (ok_icmp_ne (off := 30) (by decide) (by decide +kernel)) ?_
  refine ak (ok_aload_n (k := 0) rfl (by decide +kernel)) ?_
  refine ak (ok_get (k := 7) ck9 kd1 (by decide) (fun _ _ _ => rfl) (vf_1_7 hsd) tw402 (by decide +kernel)) ?_
  refine ak (ok_iload (by decide +kernel)) ?_
  refine ak (ok_aald (t0 := 4) (C := RX2) kd9 (by decide) rfl (vr_9 hsd) (by decide +kernel)) ?_
  refine ak (ok_get (k := 3) ck2 kd10 (by decide) (fun _ _ _ => rfl) (fun _ _ _ _ _ => trivial) tw281 (by decide +kernel)) ?_
  refine ak (ok_iload_n (k := 2) rfl (by decide +kernel)) ?_
  refine ak (ok_icmp_ne (off := 16) (by decide) (by decide +kernel)) ?_
  refine ak (ok_aload_n (k := 0) rfl (by decide +kernel)) ?_
  refine ak (ok_aload_n (k := 0) rfl (by decide +kernel)) ?_
  refine ak (ok_get (k := 7) ck9 kd1 (by decide) (fun _ _ _ => rfl) (vf_1_7 hsd) tw402 (by decide +kernel)) ?_
  refine ak (ok_iload (by decide +kernel)) ?_
  refine ak (ok_aald (t0 := 4) (C := RX2) kd9 (by decide) rfl (vr_9 hsd) (by decide +kernel)) ?_
  refine ak (ok_iload_n (k := 3) rfl (by decide +kernel)) ?_
  refine ak (ok_invV (r := 1) (kW_become hsd l) qW_become ck9 kd1 iW_become tw761 tw762 (by decide) tw1085 (by decide +kernel)) ?_
  refine ak (ok_return rfl (by decide +kernel)) ?_
  refine ak (ok_iinc (n := 1) (by decide) (by decide) (by decide +kernel)) ?_
  refine ak (ok_goto (off := (-53)) (by decide) (by decide +kernel)) ?_
  refine ak (ok_return rfl (by decide +kernel)) ?_
  exact trivial
def KW_turnLeast_3 (j3 : Nat → Int32 → Int32 → Int32 → Int32 → Mem → Option Mem) : Jm Mem := fun t als st M =>
  if t = 3 then (match als, st with
  | [.inr (.inr (.inl (al0, w0, cl0))), .inl x1, .inl x2, .inl x3, .inl x4], [] => if al0 = 1 ∧ cl0 = 0 then j3 w0 x1 x2 x3 x4 M else none
  | _, _ => none) else
  none
set_option maxRecDepth 1000000 in
theorem eW_turnLeast_3 (j3 : Nat → Int32 → Int32 → Int32 → Int32 → Mem → Option Mem) (w0 : Nat) (x1 : Int32) (x2 : Int32) (x3 : Int32) (x4 : Int32) (M : Mem) : run (cW_turnLeast) (KW_turnLeast_3 j3) rtV 400 (seek (cW_turnLeast) 3) [aR (1, w0, 0), aI x1, aI x2, aI x3, aI x4] [] M = mW_turnLeast_3b j3 w0 x1 x2 x3 x4 M := id rfl
theorem lW_turnLeast_3 {E : EV} {l : Launch} {p : Program} {e : Env} {s : State} {m : MethodId} {args : Array Value} {below : List Frame} {meth : Method} {c : Code} (A : AllOK E l 3 "FreeLances$World" prog_11_method_12_code 5 none outV (cW_turnLeast)) (C : Cx E p s m args meth c "FreeLances$World" prog_11_method_12_code 5 none) : ∀ (n : Nat), ∀ (w0 : Nat) (x1 : Int32) (x2 : Int32) (x3 : Int32) (x4 : Int32) (M : Mem) (res : Mem), mW_turnLeast_3 n w0 x1 x2 x3 x4 M = some res → Wm E p l e 3 s m args below meth c 5 3 [aR (1, w0, 0), aI x1, aI x2, aI x3, aI x4] [] M (outV res).1 (outV res).2 := by
  intro n
  induction n with
  | zero => intro _ _ _ _ _ M res h; cases h
  | succ n ih =>
    intro w0 x1 x2 x3 x4 M res h
    refine run_at C A rfl hrtV (n := 400) ((eW_turnLeast_3 (mW_turnLeast_3 n) w0 x1 x2 x3 x4 M).trans h) ?_
    intro t als st M hk
    unfold KW_turnLeast_3 at hk
    split at hk
    · rename_i ht
      subst ht
      split at hk
      · split at hk
        · rename_i hc
          obtain ⟨rfl, rfl⟩ := hc
          exact ih _ _ _ _ _ _ _ hk
        · cases hk
      · cases hk
    cases hk
def KW_turnLeast (j3 : Nat → Int32 → Int32 → Int32 → Int32 → Mem → Option Mem) : Jm Mem := fun t als st M =>
  if t = 3 then (match als, st with
  | [.inr (.inr (.inl (al0, w0, cl0))), .inl x1, .inl x2, .inl x3, .inl x4], [] => if al0 = 1 ∧ cl0 = 0 then j3 w0 x1 x2 x3 x4 M else none
  | _, _ => none) else
  none
set_option maxRecDepth 1000000 in
theorem eW_turnLeast (j3 : Nat → Int32 → Int32 → Int32 → Int32 → Mem → Option Mem) (w0 : Nat) (x1 : Int32) (x2 : Int32) (x3 : Int32) (M : Mem) : run (cW_turnLeast) (KW_turnLeast j3) rtV 400 (seek (cW_turnLeast) 0) [aR (1, w0, 0), aI x1, aI x2, aI x3, aU] [] M = mW_turnLeastb j3 w0 x1 x2 x3 M := id rfl
theorem lW_turnLeast {E : EV} {l : Launch} {p : Program} {e : Env} {s : State} {m : MethodId} {args : Array Value} {below : List Frame} {meth : Method} {c : Code} (A : AllOK E l 3 "FreeLances$World" prog_11_method_12_code 5 none outV (cW_turnLeast)) (C : Cx E p s m args meth c "FreeLances$World" prog_11_method_12_code 5 none) : ∀ (w0 : Nat) (x1 : Int32) (x2 : Int32) (x3 : Int32) (M : Mem) (res : Mem), mW_turnLeast w0 x1 x2 x3 M = some res → Wm E p l e 3 s m args below meth c 5 0 [aR (1, w0, 0), aI x1, aI x2, aI x3, aU] [] M (outV res).1 (outV res).2 := by
  intro w0 x1 x2 x3 M res h
  refine run_at C A rfl hrtV (n := 400) ((eW_turnLeast (mW_turnLeast_3 fuel) w0 x1 x2 x3 M).trans h) ?_
  intro t als st M hk
  unfold KW_turnLeast at hk
  split at hk
  · rename_i ht
    subst ht
    split at hk
    · split at hk
      · rename_i hc
        obtain ⟨rfl, rfl⟩ := hc
        exact lW_turnLeast_3 A C _ _ _ _ _ _ _ _ hk
      · cases hk
    · cases hk
  cases hk
def dW_turnLeast {β : Type} : Den β := fun as M k => match as with
  | [.inr (.inr (.inl (al0, w0, cl0))), .inl x1, .inl x2, .inl x3] => if al0 = 1 ∧ cl0 = 0 then (mW_turnLeast w0 x1 x2 x3 M).bind fun q => k aU q else none
  | _ => none
theorem wW_turnLeast {E : EV} (hsd : E.2.2.2 = 0) (l : Launch) (w0 : Nat) (x1 : Int32) (x2 : Int32) (x3 : Int32) (M : Mem) (q : Mem) (hq : mW_turnLeast w0 x1 x2 x3 M = some q) : Con E l 3 yW_turnLeast prog_11_method_12_code 5 none [aR (1, w0, 0), aI x1, aI x2, aI x3] M (outV q).1 (outV q).2 := by
  refine con_of iW_turnLeast (Nat.le_of_ble_eq_true rfl) ?_
  intro p e s m args below meth c C
  exact lW_turnLeast (oW_turnLeast hsd l) C w0 x1 x2 x3 M _ hq
theorem kW_turnLeast {E : EV} (hsd : E.2.2.2 = 0) (l : Launch) {β : Type} : DenOK E l 3 yW_turnLeast prog_11_method_12_code 5 none false (dW_turnLeast (β := β)) := by
  intro as M k res h
  unfold dW_turnLeast at h
  split at h
  ·
    split at h
    · rename_i hc
      obtain ⟨rfl, rfl⟩ := hc
      obtain ⟨q, hq, hk⟩ := Option.bind_eq_some_iff.mp h
      exact ⟨aU, q, hk, rfl, wW_turnLeast hsd l _ _ _ _ M q hq⟩
    · cases h
  · cases h
theorem qW_turnLeast {β : Type} : RecOK 1 (dW_turnLeast (β := β)) := by
  intro as M k res h
  unfold dW_turnLeast at h
  split at h
  ·
    split at h
    · rename_i hc
      obtain ⟨rfl, rfl⟩ := hc
      exact ⟨_, _, _, rfl⟩
    · cases h
  · cases h
/-! ===== FreeLances$World.ail(I)V ===== -/
abbrev yW_ail : MethodName := ⟨"FreeLances$World", "ail", "(I)V"⟩
theorem iW_ail : MI yW_ail prog_11_method_11_code 3 none 1 := ⟨tw1080, tw98, ⟨by decide, by decide⟩, by decide +kernel, by decide, by decide⟩
def cW_ail : List (Ent Mem) := [(false, 0, 1, sLdA 0),
  (false, 1, 3, sGet 1 (fun w i M => aR (5, w, 0))),
  (false, 4, 1, sLdI 1),
  (false, 5, 1, sAald 5 5 6),
  (false, 6, 3, sGet 6 (fun w i M => aI (M 6 w i 2))),
  (false, 9, 1, sStI 2),
  (false, 10, 1, sLdI 2),
  (false, 11, 2, sC 6),
  (false, 13, 3, sCmpLt 26),
  (false, 16, 1, sLdA 0),
  (false, 17, 1, sLdI 1),
  (false, 18, 1, sC 1),
  (false, 19, 1, sC 3),
  (false, 20, 3, sInv 4 false dW_turnLeast),
  (false, 23, 3, sGoto 64),
  (false, 26, 1, sLdI 2),
  (false, 27, 1, sC 3),
  (false, 28, 3, sCmpLt 41),
  (false, 31, 1, sLdA 0),
  (false, 32, 1, sLdI 1),
  (false, 33, 1, sC 0),
  (false, 34, 1, sC 1),
  (false, 35, 3, sInv 4 false dW_turnLeast),
  (false, 38, 3, sGoto 64),
  (false, 41, 1, sLdI 2),
  (false, 42, 3, sIfNe 64),
  (false, 45, 1, sLdA 0),
  (false, 46, 3, sGet 1 (fun w i M => aR (5, w, 0))),
  (false, 49, 1, sLdI 1),
  (false, 50, 1, sAald 5 5 6),
  (false, 51, 3, sGet 6 (fun w i M => aI (M 6 w i 7))),
  (false, 54, 3, sIfLe 64),
  (false, 57, 1, sLdA 0),
  (false, 58, 1, sLdI 1),
  (false, 59, 1, sC 1),
  (false, 60, 1, sC 0),
  (false, 61, 3, sInv 4 false dW_turnLeast),
  (false, 64, 1, sRetV)]
theorem oW_ail {E : EV} (hsd : E.2.2.2 = 0) (l : Launch) : AllOK E l 4 "FreeLances$World" prog_11_method_11_code 3 none outV (cW_ail) := by
  refine ak (ok_aload_n (k := 0) rfl (by decide +kernel)) ?_
  refine ak (ok_get (k := 5) ck9 kd1 (by decide) (fun _ _ _ => rfl) (vf_1_5 hsd) tw396 (by decide +kernel)) ?_
  refine ak (ok_iload_n (k := 1) rfl (by decide +kernel)) ?_
  refine ak (ok_aald (t0 := 3) (C := RX1) kd5 (by decide) rfl (vr_5 hsd) (by decide +kernel)) ?_
  refine ak (ok_get (k := 2) ck1 kd6 (by decide) (fun _ _ _ => rfl) (fun _ _ _ _ _ => trivial) tw205 (by decide +kernel)) ?_
  refine ak (ok_istore_n (k := 2) rfl (by decide) (by decide +kernel)) ?_
  refine ak (ok_iload_n (k := 2) rfl (by decide +kernel)) ?_
  refine ak (ok_bipush (n := 6) (by decide) (by decide +kernel)) ?_
  refine ak (ok_icmp_lt (off := 13) (by decide) (by decide +kernel)) ?_
  refine ak (ok_aload_n (k := 0) rfl (by decide +kernel)) ?_
  refine ak (ok_iload_n (k := 1) rfl (by decide +kernel)) ?_
  refine ak (ok_iconst (n := 1) (by decide) (by decide +kernel)) ?_
  refine ak (ok_iconst (n := 3) (by decide) (by decide +kernel)) ?_
  refine ak (ok_invV (r := 1) (kW_turnLeast hsd l) qW_turnLeast ck9 kd1 iW_turnLeast tw1083 tw30 (by decide) tw1081 (by decide +kernel)) ?_
  refine ak (ok_goto (off := 41) (by decide) (by decide +kernel)) ?_
  refine ak (ok_iload_n (k := 2) rfl (by decide +kernel)) ?_
  refine ak (ok_iconst (n := 3) (by decide) (by decide +kernel)) ?_
  refine ak (ok_icmp_lt (off := 13) (by decide) (by decide +kernel)) ?_
  refine ak (ok_aload_n (k := 0) rfl (by decide +kernel)) ?_
  refine ak (ok_iload_n (k := 1) rfl (by decide +kernel)) ?_
  refine ak (ok_iconst (n := 0) (by decide) (by decide +kernel)) ?_
  refine ak (ok_iconst (n := 1) (by decide) (by decide +kernel)) ?_
  refine ak (ok_invV (r := 1) (kW_turnLeast hsd l) qW_turnLeast ck9 kd1 iW_turnLeast tw1083 tw30 (by decide) tw1081 (by decide +kernel)) ?_
  refine ak (ok_goto (off := 26) (by decide) (by decide +kernel)) ?_
  refine ak (ok_iload_n (k := 2) rfl (by decide +kernel)) ?_
  refine ak (ok_if_ne (off := 22) (by decide) (by decide +kernel)) ?_
  refine ak (ok_aload_n (k := 0) rfl (by decide +kernel)) ?_
  refine ak (ok_get (k := 5) ck9 kd1 (by decide) (fun _ _ _ => rfl) (vf_1_5 hsd) tw396 (by decide +kernel)) ?_
  refine ak (ok_iload_n (k := 1) rfl (by decide +kernel)) ?_
  refine ak (ok_aald (t0 := 3) (C := RX1) kd5 (by decide) rfl (vr_5 hsd) (by decide +kernel)) ?_
  refine ak (ok_get (k := 7) ck1 kd6 (by decide) (fun _ _ _ => rfl) (fun _ _ _ _ _ => trivial) tw219 (by decide +kernel)) ?_
  refine ak (ok_if_le (off := 10) (by decide) (by decide +kernel)) ?_
  refine ak (ok_aload_n (k := 0) rfl (by decide +kernel)) ?_
  refine ak (ok_iload_n (k := 1) rfl (by decide +kernel)) ?_
  refine ak (ok_iconst (n := 1) (by decide) (by decide +kernel)) ?_
  refine ak (ok_iconst (n := 0) (by decide) (by decide +kernel)) ?_
  refine ak (ok_invV (r := 1) (kW_turnLeast hsd l) qW_turnLeast ck9 kd1 iW_turnLeast tw1083 tw30 (by decide) tw1081 (by decide +kernel)) ?_
  refine ak (ok_return rfl (by decide +kernel)) ?_
  exact trivial
set_option maxRecDepth 1000000 in
theorem eW_ail (w0 : Nat) (x1 : Int32) (M : Mem) : run (cW_ail) (fun _ _ _ _ => none) rtV 400 (seek (cW_ail) 0) [aR (1, w0, 0), aI x1, aU] [] M = mW_ail w0 x1 M := id rfl
theorem lW_ail {E : EV} {l : Launch} {p : Program} {e : Env} {s : State} {m : MethodId} {args : Array Value} {below : List Frame} {meth : Method} {c : Code} (A : AllOK E l 4 "FreeLances$World" prog_11_method_11_code 3 none outV (cW_ail)) (C : Cx E p s m args meth c "FreeLances$World" prog_11_method_11_code 3 none) : ∀ (w0 : Nat) (x1 : Int32) (M : Mem) (res : Mem), mW_ail w0 x1 M = some res → Wm E p l e 4 s m args below meth c 3 0 [aR (1, w0, 0), aI x1, aU] [] M (outV res).1 (outV res).2 := by
  intro w0 x1 M res h
  refine run_at C A rfl hrtV (n := 400) ((eW_ail w0 x1 M).trans h) ?_
  intro t als st M hk; cases hk
def dW_ail {β : Type} : Den β := fun as M k => match as with
  | [.inr (.inr (.inl (al0, w0, cl0))), .inl x1] => if al0 = 1 ∧ cl0 = 0 then (mW_ail w0 x1 M).bind fun q => k aU q else none
  | _ => none
theorem wW_ail {E : EV} (hsd : E.2.2.2 = 0) (l : Launch) (w0 : Nat) (x1 : Int32) (M : Mem) (q : Mem) (hq : mW_ail w0 x1 M = some q) : Con E l 4 yW_ail prog_11_method_11_code 3 none [aR (1, w0, 0), aI x1] M (outV q).1 (outV q).2 := by
  refine con_of iW_ail (Nat.le_of_ble_eq_true rfl) ?_
  intro p e s m args below meth c C
  exact lW_ail (oW_ail hsd l) C w0 x1 M _ hq
theorem kW_ail {E : EV} (hsd : E.2.2.2 = 0) (l : Launch) {β : Type} : DenOK E l 4 yW_ail prog_11_method_11_code 3 none false (dW_ail (β := β)) := by
  intro as M k res h
  unfold dW_ail at h
  split at h
  ·
    split at h
    · rename_i hc
      obtain ⟨rfl, rfl⟩ := hc
      obtain ⟨q, hq, hk⟩ := Option.bind_eq_some_iff.mp h
      exact ⟨aU, q, hk, rfl, wW_ail hsd l _ _ M q hq⟩
    · cases h
  · cases h
theorem qW_ail {β : Type} : RecOK 1 (dW_ail (β := β)) := by
  intro as M k res h
  unfold dW_ail at h
  split at h
  ·
    split at h
    · rename_i hc
      obtain ⟨rfl, rfl⟩ := hc
      exact ⟨_, _, _, rfl⟩
    · cases h
  · cases h
/-! ===== FreeLances$World.due(II)I ===== -/
abbrev yW_due : MethodName := ⟨"FreeLances$World", "due", "(II)I"⟩
theorem iW_due : MI yW_due prog_11_method_14_code 5 (some .int) 2 := ⟨tw1093, tw98, ⟨by decide, by decide⟩, by decide +kernel, by decide, by decide⟩
def cW_due : List (Ent (Int32 × Mem)) := [(false, 0, 1, sLdA 0),
  (false, 1, 1, sC 1),
  (false, 2, 1, sLdA 0),
  (false, 3, 3, sGet 1 (fun w i M => aI (M 1 w i 0))),
  (false, 6, 3, sInv 3 true dW_inForce),
  (false, 9, 1, sStI 3),
  (false, 10, 1, sLdI 3),
  (false, 11, 3, sIfGe 20),
  (false, 14, 1, sLdI 1),
  (false, 15, 1, sLdI 2),
  (false, 16, 1, sBin (fun x y => x * y)),
  (false, 17, 3, sGoto 36),
  (false, 20, 1, sLdA 0),
  (false, 21, 3, sGet 1 (fun w i M => aR (17, w, 0))),
  (false, 24, 1, sLdA 0),
  (false, 25, 3, sGet 1 (fun w i M => aR (11, w, 0))),
  (false, 28, 1, sLdI 3),
  (false, 29, 1, sAald 11 12 12),
  (false, 30, 1, sLdI 1),
  (false, 31, 1, sLdI 2),
  (false, 32, 1, sC 0),
  (false, 33, 3, sInv 5 true dR_workOut),
  (false, 36, 2, sStI 4),
  (false, 38, 1, sC 0),
  (false, 39, 2, sC 99999),
  (false, 41, 2, sLdI 4),
  (false, 43, 3, sMin),
  (false, 46, 3, sMax),
  (false, 49, 1, sRetI)]
theorem oW_due {E : EV} (hsd : E.2.2.2 = 0) (l : Launch) : AllOK E l 64 "FreeLances$World" prog_11_method_14_code 5 (some .int) outI (cW_due) := by
  refine ak (ok_aload_n (k := 0) rfl (by decide +kernel)) ?_
  refine ak (ok_iconst (n := 1) (by decide) (by decide +kernel)) ?_
  refine ak (ok_aload_n (k := 0) rfl (by decide +kernel)) ?_
  refine ak (ok_get (k := 0) ck9 kd1 (by decide) (fun _ _ _ => rfl) (fun _ _ _ _ _ => trivial) tw386 (by decide +kernel)) ?_
  refine ak (ok_invV (r := 1) (kW_inForce hsd l) qW_inForce ck9 kd1 iW_inForce tw687 tw688 (by decide) tw686 (by decide +kernel)) ?_
  refine ak (ok_istore_n (k := 3) rfl (by decide) (by decide +kernel)) ?_
  refine ak (ok_iload_n (k := 3) rfl (by decide +kernel)) ?_
  refine ak (ok_if_ge (off := 9) (by decide) (by decide +kernel)) ?_
  refine ak (ok_iload_n (k := 1) rfl (by decide +kernel)) ?_
  refine ak (ok_iload_n (k := 2) rfl (by decide +kernel)) ?_
  refine ak (ok_imul (by decide +kernel)) ?_
  refine ak (ok_goto (off := 19) (by decide) (by decide +kernel)) ?_
  refine ak (ok_aload_n (k := 0) rfl (by decide +kernel)) ?_
  refine ak (ok_get (k := 17) ck9 kd1 (by decide) (fun _ _ _ => rfl) (vf_1_17 hsd) tw422 (by decide +kernel)) ?_
  refine ak (ok_aload_n (k := 0) rfl (by decide +kernel)) ?_
  refine ak (ok_get (k := 9) ck9 kd1 (by decide) (fun _ _ _ => rfl) (vf_1_9 hsd) tw406 (by decide +kernel)) ?_
  refine ak (ok_iload_n (k := 3) rfl (by decide +kernel)) ?_
  refine ak (ok_aald (t0 := 5) (C := RX6) kd11 (by decide) rfl (vr_11 hsd) (by decide +kernel)) ?_
  refine ak (ok_iload_n (k := 1) rfl (by decide +kernel)) ?_
  refine ak (ok_iload_n (k := 2) rfl (by decide +kernel)) ?_
  refine ak (ok_iconst (n := 0) (by decide) (by decide +kernel)) ?_
  refine ak (ok_invV (r := 17) (kR_workOut hsd l) qR_workOut ck4 kd17 iR_workOut tw691 tw692 (by decide) tw690 (by decide +kernel)) ?_
  refine ak (ok_istore (by decide) (by decide +kernel)) ?_
  refine ak (ok_iconst (n := 0) (by decide) (by decide +kernel)) ?_
  refine ak (ok_ldc tw1094 (by decide +kernel)) ?_
  refine ak (ok_iload (by decide +kernel)) ?_
  refine ak (ok_mmin (by decide) tw580 tw581 tw109 twMmin (by decide +kernel)) ?_
  refine ak (ok_mmax (by decide) tw887 tw888 tw109 twMmax (by decide +kernel)) ?_
  refine ak (ok_ireturn rfl (by decide +kernel)) ?_
  exact trivial
set_option maxRecDepth 1000000 in
theorem eW_due (w0 : Nat) (x1 : Int32) (x2 : Int32) (M : Mem) : run (cW_due) (fun _ _ _ _ => none) rtI 400 (seek (cW_due) 0) [aR (1, w0, 0), aI x1, aI x2, aU, aU] [] M = mW_due w0 x1 x2 M := id rfl
theorem lW_due {E : EV} {l : Launch} {p : Program} {e : Env} {s : State} {m : MethodId} {args : Array Value} {below : List Frame} {meth : Method} {c : Code} (A : AllOK E l 64 "FreeLances$World" prog_11_method_14_code 5 (some .int) outI (cW_due)) (C : Cx E p s m args meth c "FreeLances$World" prog_11_method_14_code 5 (some .int)) : ∀ (w0 : Nat) (x1 : Int32) (x2 : Int32) (M : Mem) (res : (Int32 × Mem)), mW_due w0 x1 x2 M = some res → Wm E p l e 64 s m args below meth c 5 0 [aR (1, w0, 0), aI x1, aI x2, aU, aU] [] M (outI res).1 (outI res).2 := by
  intro w0 x1 x2 M res h
  refine run_at C A rfl hrtI (n := 400) ((eW_due w0 x1 x2 M).trans h) ?_
  intro t als st M hk; cases hk
def dW_due {β : Type} : Den β := fun as M k => match as with
  | [.inr (.inr (.inl (al0, w0, cl0))), .inl x1, .inl x2] => if al0 = 1 ∧ cl0 = 0 then (mW_due w0 x1 x2 M).bind fun q => k (aI q.1) q.2 else none
  | _ => none
theorem wW_due {E : EV} (hsd : E.2.2.2 = 0) (l : Launch) (w0 : Nat) (x1 : Int32) (x2 : Int32) (M : Mem) (q : (Int32 × Mem)) (hq : mW_due w0 x1 x2 M = some q) : Con E l 64 yW_due prog_11_method_14_code 5 (some .int) [aR (1, w0, 0), aI x1, aI x2] M (outI q).1 (outI q).2 := by
  refine con_of iW_due (Nat.le_of_ble_eq_true rfl) ?_
  intro p e s m args below meth c C
  exact lW_due (oW_due hsd l) C w0 x1 x2 M _ hq
theorem kW_due {E : EV} (hsd : E.2.2.2 = 0) (l : Launch) {β : Type} : DenOK E l 64 yW_due prog_11_method_14_code 5 (some .int) true (dW_due (β := β)) := by
  intro as M k res h
  unfold dW_due at h
  split at h
  ·
    split at h
    · rename_i hc
      obtain ⟨rfl, rfl⟩ := hc
      obtain ⟨q, hq, hk⟩ := Option.bind_eq_some_iff.mp h
      exact ⟨aI q.1, q.2, hk, rfl, wW_due hsd l _ _ _ M q hq⟩
    · cases h
  · cases h
theorem qW_due {β : Type} : RecOK 1 (dW_due (β := β)) := by
  intro as M k res h
  unfold dW_due at h
  split at h
  ·
    split at h
    · rename_i hc
      obtain ⟨rfl, rfl⟩ := hc
      exact ⟨_, _, _, rfl⟩
    · cases h
  · cases h
/-! ===== FreeLances$World.settle(LFreeLances$Bond;)V ===== -/
abbrev yW_settle : MethodName := ⟨"FreeLances$World", "settle", "(LFreeLances$Bond;)V"⟩
theorem iW_settle : MI yW_settle prog_11_method_13_code 4 none 1 := ⟨tw1089, tw98, ⟨by decide, by decide⟩, by decide +kernel, by decide, by decide⟩
def cW_settle : List (Ent Mem) := [(false, 0, 1, sLdA 1),
  (false, 1, 3, sInv 1 true dB_isContract),
  (false, 4, 3, sIfEq 18),
  (false, 7, 1, sLdA 1),
  (false, 8, 1, sLdA 0),
  (false, 9, 3, sGet 1 (fun w i M => aI (M 1 w i 0))),
  (false, 12, 3, sInv 2 true dB_has),
  (false, 15, 3, sIfNe 19),
  (false, 18, 1, sRetV),
  (false, 19, 1, sLdA 1),
  (false, 20, 1, sDup),
  (false, 21, 3, sGet 15 (fun w i M => aI (M 15 w i 8))),
  (false, 24, 1, sLdA 0),
  (false, 25, 1, sC 0),
  (false, 26, 1, sLdA 0),
  (false, 27, 3, sGet 1 (fun w i M => aR (5, w, 0))),
  (false, 30, 1, sLdA 1),
  (false, 31, 3, sGet 15 (fun w i M => aI (M 15 w i 1))),
  (false, 34, 1, sAald 5 5 6),
  (false, 35, 3, sGet 6 (fun w i M => aI (M 6 w i 8))),
  (false, 38, 3, sMax),
  (false, 41, 1, sLdA 1),
  (false, 42, 3, sGet 15 (fun w i M => aI (M 15 w i 4))),
  (false, 45, 3, sInv 3 true dW_due),
  (false, 48, 1, sBin (fun x y => x + y)),
  (false, 49, 3, sPut 15 8),
  (false, 52, 1, sLdA 1),
  (false, 53, 3, sGet 15 (fun w i M => aI (M 15 w i 8))),
  (false, 56, 1, sLdA 1),
  (false, 57, 3, sGet 15 (fun w i M => aI (M 15 w i 10))),
  (false, 60, 3, sMin),
  (false, 63, 1, sStI 2),
  (false, 64, 1, sLdA 1),
  (false, 65, 1, sDup),
  (false, 66, 3, sGet 15 (fun w i M => aI (M 15 w i 10))),
  (false, 69, 1, sLdI 2),
  (false, 70, 1, sBin (fun x y => x - y)),
  (false, 71, 3, sPut 15 10),
  (false, 74, 1, sLdA 1),
  (false, 75, 1, sDup),
  (false, 76, 3, sGet 15 (fun w i M => aI (M 15 w i 8))),
  (false, 79, 1, sLdI 2),
  (false, 80, 1, sBin (fun x y => x - y)),
  (false, 81, 3, sPut 15 8),
  (false, 84, 1, sLdA 1),
  (false, 85, 3, sGet 15 (fun w i M => aI (M 15 w i 8))),
  (false, 88, 1, sLdA 0),
  (false, 89, 3, sGet 1 (fun w i M => aR (2, w, 0))),
  (false, 92, 1, sLdA 1),
  (false, 93, 3, sGet 15 (fun w i M => aI (M 15 w i 5))),
  (false, 96, 1, sAald 2 8 3),
  (false, 97, 3, sGet 3 (fun w i M => aI (M 3 w i 0))),
  (false, 100, 3, sMin),
  (false, 103, 1, sStI 3),
  (false, 104, 1, sLdA 0),
  (false, 105, 1, sLdA 1),
  (false, 106, 3, sGet 15 (fun w i M => aI (M 15 w i 5))),
  (false, 109, 1, sLdA 1),
  (false, 110, 3, sGet 15 (fun w i M => aI (M 15 w i 1))),
  (false, 113, 1, sLdI 3),
  (false, 114, 3, sInv 4 false dW_coinToCompany),
  (false, 117, 1, sLdA 1),
  (false, 118, 1, sDup),
  (false, 119, 3, sGet 15 (fun w i M => aI (M 15 w i 8))),
  (false, 122, 1, sLdI 3),
  (false, 123, 1, sBin (fun x y => x - y)),
  (false, 124, 3, sPut 15 8),
  (false, 127, 1, sLdA 1),
  (false, 128, 3, sGet 15 (fun w i M => aI (M 15 w i 8))),
  (false, 131, 3, sIfNe 142),
  (false, 134, 1, sLdA 1),
  (false, 135, 1, sC (-1)),
  (false, 136, 3, sPut 15 9),
  (false, 139, 3, sGoto 157),
  (false, 142, 1, sLdA 1),
  (false, 143, 3, sGet 15 (fun w i M => aI (M 15 w i 9))),
  (false, 146, 3, sIfGe 157),
  (false, 149, 1, sLdA 1),
  (false, 150, 1, sLdA 0),
  (false, 151, 3, sGet 1 (fun w i M => aI (M 1 w i 0))),
  (false, 154, 3, sPut 15 9),
  (false, 157, 1, sRetV)]
theorem oW_settle {E : EV} (hsd : E.2.2.2 = 0) (l : Launch) : AllOK E l 65 "FreeLances$World" prog_11_method_13_code 4 none outV (cW_settle) := by
  refine ak (ok_aload_n (k := 1) rfl (by decide +kernel)) ?_
  refine ak (ok_invV (r := 15) (kB_isContract hsd l) qB_isContract ck0 kd15 iB_isContract tw643 tw644 (by decide) tw890 (by decide +kernel)) ?_
  refine ak (ok_if_eq (off := 14) (by decide) (by decide +kernel)) ?_
  refine ak (ok_aload_n (k := 1) rfl (by decide +kernel)) ?_
  refine ak (ok_aload_n (k := 0) rfl (by decide +kernel)) ?_
  refine ak (ok_get (k := 0) ck9 kd1 (by decide) (fun _ _ _ => rfl) (fun _ _ _ _ _ => trivial) tw386 (by decide +kernel)) ?_
  refine ak (ok_invV (r := 15) (kB_has hsd l) qB_has ck0 kd15 iB_has tw647 tw648 (by decide) tw646 (by decide +kernel)) ?_
  refine ak (ok_if_ne (off := 4) (by decide) (by decide +kernel)) ?_
  refine ak (ok_return rfl (by decide +kernel)) ?_
  refine ak (ok_aload_n (k := 1) rfl (by decide +kernel)) ?_
  refine ak (ok_dup (by decide +kernel)) ?_
  refine ak (ok_get (k := 8) ck0 kd15 (by decide) (fun _ _ _ => rfl) (fun _ _ _ _ _ => trivial) tw349 (by decide +kernel)) ?_
  refine ak (ok_aload_n (k := 0) rfl (by decide +kernel)) ?_
  refine ak (ok_iconst (n := 0) (by decide) (by decide +kernel)) ?_
  refine ak (ok_aload_n (k := 0) rfl (by decide +kernel)) ?_
  refine ak (ok_get (k := 5) ck9 kd1 (by decide) (fun _ _ _ => rfl) (vf_1_5 hsd) tw396 (by decide +kernel)) ?_
  refine ak (ok_aload_n (k := 1) rfl (by decide +kernel)) ?_
  refine ak (ok_get (k := 1) ck0 kd15 (by decide) (fun _ _ _ => rfl) (fun _ _ _ _ _ => trivial) tw328 (by decide +kernel)) ?_
  refine ak (ok_aald (t0 := 3) (C := RX1) kd5 (by decide) rfl (vr_5 hsd) (by decide +kernel)) ?_
  refine ak (ok_get (k := 8) ck1 kd6 (by decide) (fun _ _ _ => rfl) (fun _ _ _ _ _ => trivial) tw223 (by decide +kernel)) ?_
  refine ak (ok_mmax (by decide) tw887 tw888 tw109 twMmax (by decide +kernel)) ?_
  refine ak (ok_aload_n (k := 1) rfl (by decide +kernel)) ?_
  refine ak (ok_get (k := 4) ck0 kd15 (by decide) (fun _ _ _ => rfl) (fun _ _ _ _ _ => trivial) tw337 (by decide +kernel)) ?_
  refine ak (ok_invV (r := 1) (kW_due hsd l) qW_due ck9 kd1 iW_due tw1092 tw32 (by decide) tw1090 (by decide +kernel)) ?_
  refine ak (ok_iadd (by decide +kernel)) ?_
  refine ak (ok_put (k := 8) ck0 kd15 (by decide) (fun _ _ _ => rfl) rfl rfl (by decide) tw349 (by decide +kernel)) ?_
  refine ak (ok_aload_n (k := 1) rfl (by decide +kernel)) ?_
  refine ak (ok_get (k := 8) ck0 kd15 (by decide) (fun _ _ _ => rfl) (fun _ _ _ _ _ => trivial) tw349 (by decide +kernel)) ?_
  refine ak (ok_aload_n (k := 1) rfl (by decide +kernel)) ?_
  refine ak (ok_get (k := 10) ck0 kd15 (by decide) (fun _ _ _ => rfl) (fun _ _ _ _ _ => trivial) tw355 (by decide +kernel)) ?_
  refine ak (ok_mmin (by decide) tw580 tw581 tw109 twMmin (by decide +kernel)) ?_
  refine ak (ok_istore_n (k := 2) rfl (by decide) (by decide +kernel)) ?_
  refine ak (ok_aload_n (k := 1) rfl (by decide +kernel)) ?_
  refine ak (ok_dup (by decide +kernel)) ?_
  refine ak (ok_get (k := 10) ck0 kd15 (by decide) (fun _ _ _ => rfl) (fun _ _ _ _ _ => trivial) tw355 (by decide +kernel)) ?_
  refine ak (ok_iload_n (k := 2) rfl (by decide +kernel)) ?_
  refine ak (ok_isub (by decide +kernel)) ?_
  refine ak (ok_put (k := 10) ck0 kd15 (by decide) (fun _ _ _ => rfl) rfl rfl (by decide) tw355 (by decide +kernel)) ?_
  refine ak (ok_aload_n (k := 1) rfl (by decide +kernel)) ?_
  refine ak (ok_dup (by decide +kernel)) ?_
  refine ak (ok_get (k := 8) ck0 kd15 (by decide) (fun _ _ _ => rfl) (fun _ _ _ _ _ => trivial) tw349 (by decide +kernel)) ?_
  refine ak (ok_iload_n (k := 2) rfl (by decide +kernel)) ?_
  refine ak (ok_isub (by decide +kernel)) ?_
  refine ak (ok_put (k := 8) ck0 kd15 (by decide) (fun _ _ _ => rfl) rfl rfl (by decide) tw349 (by decide +kernel)) ?_
  refine ak (ok_aload_n (k := 1) rfl (by decide +kernel)) ?_
  refine ak (ok_get (k := 8) ck0 kd15 (by decide) (fun _ _ _ => rfl) (fun _ _ _ _ _ => trivial) tw349 (by decide +kernel)) ?_
  refine ak (ok_aload_n (k := 0) rfl (by decide +kernel)) ?_
  refine ak (ok_get (k := 1) ck9 kd1 (by decide) (fun _ _ _ => rfl) (vf_1_1 hsd) tw388 (by decide +kernel)) ?_
  refine ak (ok_aload_n (k := 1) rfl (by decide +kernel)) ?_
  refine ak (ok_get (k := 5) ck0 kd15 (by decide) (fun _ _ _ => rfl) (fun _ _ _ _ _ => trivial) tw340 (by decide +kernel)) ?_
  refine ak (ok_aald (t0 := 2) (C := RX7) kd2 (by decide) rfl (vr_2 hsd) (by decide +kernel)) ?_
  refine ak (ok_get (k := 0) ck7 kd3 (by decide) (fun _ _ _ => rfl) (fun _ _ _ _ _ => trivial) tw176 (by decide +kernel)) ?_
  refine ak (ok_mmin (by decide) tw580 tw581 tw109 twMmin (by decide +kernel)) ?_
  refine ak (ok_istore_n (k := 3) rfl (by decide) (by decide +kernel)) ?_
  refine ak (ok_aload_n (k := 0) rfl (by decide +kernel)) ?_
  refine ak (ok_aload_n (k := 1) rfl (by decide +kernel)) ?_
  refine ak (ok_get (k := 5) ck0 kd15 (by decide) (fun _ _ _ => rfl) (fun _ _ _ _ _ => trivial) tw340 (by decide +kernel)) ?_
  refine ak (ok_aload_n (k := 1) rfl (by decide +kernel)) ?_
  refine ak (ok_get (k := 1) ck0 kd15 (by decide) (fun _ _ _ => rfl) (fun _ _ _ _ _ => trivial) tw328 (by decide +kernel)) ?_
  refine ak (ok_iload_n (k := 3) rfl (by decide +kernel)) ?_
  refine ak (ok_invV (r := 1) (kW_coinToCompany hsd l) qW_coinToCompany ck9 kd1 iW_coinToCompany tw834 tw835 (by decide) tw1095 (by decide +kernel)) ?_
  refine ak (ok_aload_n (k := 1) rfl (by decide +kernel)) ?_
  refine ak (ok_dup (by decide +kernel)) ?_
  refine ak (ok_get (k := 8) ck0 kd15 (by decide) (fun _ _ _ => rfl) (fun _ _ _ _ _ => trivial) tw349 (by decide +kernel)) ?_
  refine ak (ok_iload_n (k := 3) rfl (by decide +kernel)) ?_
  refine ak (ok_isub (by decide +kernel)) ?_
  refine ak (ok_put (k := 8) ck0 kd15 (by decide) (fun _ _ _ => rfl) rfl rfl (by decide) tw349 (by decide +kernel)) ?_
  refine ak (ok_aload_n (k := 1) rfl (by decide +kernel)) ?_
  refine ak (ok_get (k := 8) ck0 kd15 (by decide) (fun _ _ _ => rfl) (fun _ _ _ _ _ => trivial) tw349 (by decide +kernel)) ?_
  refine ak (ok_if_ne (off := 11) (by decide) (by decide +kernel)) ?_
  refine ak (ok_aload_n (k := 1) rfl (by decide +kernel)) ?_
  refine ak (ok_iconst (n := (-1)) (by decide) (by decide +kernel)) ?_
  refine ak (ok_put (k := 9) ck0 kd15 (by decide) (fun _ _ _ => rfl) rfl rfl (by decide) tw352 (by decide +kernel)) ?_
  refine ak (ok_goto (off := 18) (by decide) (by decide +kernel)) ?_
  refine ak (ok_aload_n (k := 1) rfl (by decide +kernel)) ?_
  refine ak (ok_get (k := 9) ck0 kd15 (by decide) (fun _ _ _ => rfl) (fun _ _ _ _ _ => trivial) tw352 (by decide +kernel)) ?_
  refine ak (ok_if_ge (off := 11) (by decide) (by decide +kernel)) ?_
  refine ak (ok_aload_n (k := 1) rfl (by decide +kernel)) ?_
  refine ak (ok_aload_n (k := 0) rfl (by decide +kernel)) ?_
  refine ak (ok_get (k := 0) ck9 kd1 (by decide) (fun _ _ _ => rfl) (fun _ _ _ _ _ => trivial) tw386 (by decide +kernel)) ?_
  refine ak (ok_put (k := 9) ck0 kd15 (by decide) (fun _ _ _ => rfl) rfl rfl (by decide) tw352 (by decide +kernel)) ?_
  refine ak (ok_return rfl (by decide +kernel)) ?_
  exact trivial
set_option maxRecDepth 1000000 in
theorem eW_settle (w0 : Nat) (w1 : Nat) (i1 : Nat) (M : Mem) : run (cW_settle) (fun _ _ _ _ => none) rtV 400 (seek (cW_settle) 0) [aR (1, w0, 0), aR (15, w1, i1), aU, aU] [] M = mW_settle w0 w1 i1 M := id rfl
theorem lW_settle {E : EV} {l : Launch} {p : Program} {e : Env} {s : State} {m : MethodId} {args : Array Value} {below : List Frame} {meth : Method} {c : Code} (A : AllOK E l 65 "FreeLances$World" prog_11_method_13_code 4 none outV (cW_settle)) (C : Cx E p s m args meth c "FreeLances$World" prog_11_method_13_code 4 none) : ∀ (w0 : Nat) (w1 : Nat) (i1 : Nat) (M : Mem) (res : Mem), mW_settle w0 w1 i1 M = some res → Wm E p l e 65 s m args below meth c 4 0 [aR (1, w0, 0), aR (15, w1, i1), aU, aU] [] M (outV res).1 (outV res).2 := by
  intro w0 w1 i1 M res h
  refine run_at C A rfl hrtV (n := 400) ((eW_settle w0 w1 i1 M).trans h) ?_
  intro t als st M hk; cases hk
def dW_settle {β : Type} : Den β := fun as M k => match as with
  | [.inr (.inr (.inl (al0, w0, cl0))), .inr (.inr (.inl (al1, w1, i1)))] => if al0 = 1 ∧ cl0 = 0 ∧ al1 = 15 then (mW_settle w0 w1 i1 M).bind fun q => k aU q else none
  | _ => none
theorem wW_settle {E : EV} (hsd : E.2.2.2 = 0) (l : Launch) (w0 : Nat) (w1 : Nat) (i1 : Nat) (M : Mem) (q : Mem) (hq : mW_settle w0 w1 i1 M = some q) : Con E l 65 yW_settle prog_11_method_13_code 4 none [aR (1, w0, 0), aR (15, w1, i1)] M (outV q).1 (outV q).2 := by
  refine con_of iW_settle (Nat.le_of_ble_eq_true rfl) ?_
  intro p e s m args below meth c C
  exact lW_settle (oW_settle hsd l) C w0 w1 i1 M _ hq
theorem kW_settle {E : EV} (hsd : E.2.2.2 = 0) (l : Launch) {β : Type} : DenOK E l 65 yW_settle prog_11_method_13_code 4 none false (dW_settle (β := β)) := by
  intro as M k res h
  unfold dW_settle at h
  split at h
  ·
    split at h
    · rename_i hc
      obtain ⟨rfl, rfl, rfl⟩ := hc
      obtain ⟨q, hq, hk⟩ := Option.bind_eq_some_iff.mp h
      exact ⟨aU, q, hk, rfl, wW_settle hsd l _ _ _ M q hq⟩
    · cases h
  · cases h
theorem qW_settle {β : Type} : RecOK 1 (dW_settle (β := β)) := by
  intro as M k res h
  unfold dW_settle at h
  split at h
  ·
    split at h
    · rename_i hc
      obtain ⟨rfl, rfl, rfl⟩ := hc
      exact ⟨_, _, _, rfl⟩
    · cases h
  · cases h
/-! ===== FreeLances$World.endDay()V ===== -/
abbrev yW_endDay : MethodName := ⟨"FreeLances$World", "endDay", "()V"⟩
theorem iW_endDay : MI yW_endDay prog_11_method_9_code 2 none 0 := ⟨tw1067, tw98, ⟨by decide, by decide⟩, by decide +kernel, by decide, by decide⟩
def cW_endDay : List (Ent Mem) := [(false, 0, 1, sLdA 0),
  (false, 1, 1, sDup),
  (false, 2, 3, sGet 1 (fun w i M => aI (M 1 w i 0))),
  (false, 5, 1, sC 1),
  (false, 6, 1, sBin (fun x y => x + y)),
  (false, 7, 3, sPut 1 0),
  (false, 10, 1, sC 0),
  (false, 11, 1, sStI 1),
  (true, 12, 1, sLdI 1),
  (false, 13, 1, sLdA 0),
  (false, 14, 3, sGet 1 (fun w i M => aI (M 1 w i 6))),
  (false, 17, 3, sCmpGe 39),
  (false, 20, 1, sLdA 0),
  (false, 21, 3, sGet 1 (fun w i M => aR (5, w, 0))),
  (false, 24, 1, sLdI 1),
  (false, 25, 1, sAald 5 5 6),
  (false, 26, 1, sLdA 0),
  (false, 27, 3, sGet 1 (fun w i M => aI (M 1 w i 0))),
  (false, 30, 3, sInv 2 false dC_arriveOn),
  (false, 33, 3, sInc 1 1),
  (false, 36, 3, sGoto 12),
  (false, 39, 1, sC 0),
  (false, 40, 1, sStI 1),
  (true, 41, 1, sLdI 1),
  (false, 42, 1, sLdA 0),
  (false, 43, 3, sGet 1 (fun w i M => aI (M 1 w i 6))),
  (false, 46, 3, sCmpGe 70),
  (false, 49, 1, sLdA 0),
  (false, 50, 1, sLdA 0),
  (false, 51, 3, sGet 1 (fun w i M => aR (5, w, 0))),
  (false, 54, 1, sLdI 1),
  (false, 55, 1, sAald 5 5 6),
  (false, 56, 3, sInv 2 false dW_eat),
  (false, 59, 1, sLdA 0),
  (false, 60, 1, sLdI 1),
  (false, 61, 3, sInv 2 false dW_ail),
  (false, 64, 3, sInc 1 1),
  (false, 67, 3, sGoto 41),
  (false, 70, 1, sC 0),
  (false, 71, 1, sStI 1),
  (true, 72, 1, sLdI 1),
  (false, 73, 1, sLdA 0),
  (false, 74, 3, sGet 1 (fun w i M => aI (M 1 w i 12))),
  (false, 77, 3, sCmpGe 106),
  (false, 80, 1, sLdA 0),
  (false, 81, 3, sGet 1 (fun w i M => aI (M 1 w i 0))),
  (false, 84, 2, sC 30),
  (false, 86, 1, sBin0 (fun x y => x - x / y * y)),
  (false, 87, 3, sIfNe 106),
  (false, 90, 1, sLdA 0),
  (false, 91, 1, sLdA 0),
  (false, 92, 3, sGet 1 (fun w i M => aR (14, w, 0))),
  (false, 95, 1, sLdI 1),
  (false, 96, 1, sAald 14 24 15),
  (false, 97, 3, sInv 2 false dW_settle),
  (false, 100, 3, sInc 1 1),
  (false, 103, 3, sGoto 72),
  (false, 106, 1, sRetV)]
theorem oW_endDay {E : EV} (hsd : E.2.2.2 = 0) (l : Launch) : AllOK E l 66 "FreeLances$World" prog_11_method_9_code 2 none outV (cW_endDay) := by
  refine ak (ok_aload_n (k := 0) rfl (by decide +kernel)) ?_
  refine ak (ok_dup (by decide +kernel)) ?_
  refine ak (ok_get (k := 0) ck9 kd1 (by decide) (fun _ _ _ => rfl) (fun _ _ _ _ _ => trivial) tw386 (by decide +kernel)) ?_
  refine ak (ok_iconst (n := 1) (by decide) (by decide +kernel)) ?_
  refine ak (ok_iadd (by decide +kernel)) ?_
  refine ak (ok_put (k := 0) ck9 kd1 (by decide) (fun _ _ _ => rfl) rfl rfl (by decide) tw386 (by decide +kernel)) ?_
  refine ak (ok_iconst (n := 0) (by decide) (by decide +kernel)) ?_
  refine ak (ok_istore_n (k := 1) rfl (by decide) (by decide +kernel)) ?_
  refine ak (ok_iload_n (k := 1) rfl (by decide +kernel)) ?_
  refine ak (ok_aload_n (k := 0) rfl (by decide +kernel)) ?_
  refine ak (ok_get (k := 6) ck9 kd1 (by decide) (fun _ _ _ => rfl) (fun _ _ _ _ _ => trivial) tw399 (by decide +kernel)) ?_
  refine ak (ok_icmp_ge (off := 22) (by decide) (by decide +kernel)) ?_
  refine ak (ok_aload_n (k := 0) rfl (by decide +kernel)) ?_
  refine ak (ok_get (k := 5) ck9 kd1 (by decide) (fun _ _ _ => rfl) (vf_1_5 hsd) tw396 (by decide +kernel)) ?_
  refine ak (ok_iload_n (k := 1) rfl (by decide +kernel)) ?_
  refine ak (ok_aald (t0 := 3) (C := RX1) kd5 (by decide) rfl (vr_5 hsd) (by decide +kernel)) ?_
  refine ak (ok_aload_n (k := 0) rfl (by decide +kernel)) ?_
  refine ak (ok_get (k := 0) ck9 kd1 (by decide) (fun _ _ _ => rfl) (fun _ _ _ _ _ => trivial) tw386 (by decide +kernel)) ?_
  refine ak (ok_invV (r := 6) (kC_arriveOn hsd l) qC_arriveOn ck1 kd6 iC_arriveOn tw1069 tw1070 (by decide) tw1068 (by decide +kernel)) ?_
  refine ak (ok_iinc (n := 1) (by decide) (by decide) (by decide +kernel)) ?_
  refine ak (ok_goto (off := (-24)) (by decide) (by decide +kernel)) ?_
  refine ak (ok_iconst (n := 0) (by decide) (by decide +kernel)) ?_
  refine ak (ok_istore_n (k := 1) rfl (by decide) (by decide +kernel)) ?_
  refine ak (ok_iload_n (k := 1) rfl (by decide +kernel)) ?_
  refine ak (ok_aload_n (k := 0) rfl (by decide +kernel)) ?_
  refine ak (ok_get (k := 6) ck9 kd1 (by decide) (fun _ _ _ => rfl) (fun _ _ _ _ _ => trivial) tw399 (by decide +kernel)) ?_
  refine ak (ok_icmp_ge (off := 24) (by decide) (by decide +kernel)) ?_
  refine ak (ok_aload_n (k := 0) rfl (by decide +kernel)) ?_
  refine ak (ok_aload_n (k := 0) rfl (by decide +kernel)) ?_
  refine ak (ok_get (k := 5) ck9 kd1 (by decide) (fun _ _ _ => rfl) (vf_1_5 hsd) tw396 (by decide +kernel)) ?_
  refine ak (ok_iload_n (k := 1) rfl (by decide +kernel)) ?_
  refine ak (ok_aald (t0 := 3) (C := RX1) kd5 (by decide) rfl (vr_5 hsd) (by decide +kernel)) ?_
  refine ak (ok_invV (r := 1) (kW_eat hsd l) qW_eat ck9 kd1 iW_eat tw1075 tw28 (by decide) tw1073 (by decide +kernel)) ?_
  refine ak (ok_aload_n (k := 0) rfl (by decide +kernel)) ?_
  refine ak (ok_iload_n (k := 1) rfl (by decide +kernel)) ?_
  refine ak (ok_invV (r := 1) (kW_ail hsd l) qW_ail ck9 kd1 iW_ail tw1079 tw29 (by decide) tw1077 (by decide +kernel)) ?_
  refine ak (ok_iinc (n := 1) (by decide) (by decide) (by decide +kernel)) ?_
  refine ak (ok_goto (off := (-26)) (by decide) (by decide +kernel)) ?_
  refine ak (ok_iconst (n := 0) (by decide) (by decide +kernel)) ?_
  refine ak (ok_istore_n (k := 1) rfl (by decide) (by decide +kernel)) ?_
  refine ak (ok_iload_n (k := 1) rfl (by decide +kernel)) ?_
  refine ak (ok_aload_n (k := 0) rfl (by decide +kernel)) ?_
  refine ak (ok_get (k := 12) ck9 kd1 (by decide) (fun _ _ _ => rfl) (fun _ _ _ _ _ => trivial) tw412 (by decide +kernel)) ?_
  refine ak (ok_icmp_ge (off := 29) (by decide) (by decide +kernel)) ?_
  refine ak (ok_aload_n (k := 0) rfl (by decide +kernel)) ?_
  refine ak (ok_get (k := 0) ck9 kd1 (by decide) (fun _ _ _ => rfl) (fun _ _ _ _ _ => trivial) tw386 (by decide +kernel)) ?_
  refine ak (ok_bipush (n := 30) (by decide) (by decide +kernel)) ?_
  refine ak (ok_irem (by decide +kernel)) ?_
  refine ak (ok_if_ne (off := 19) (by decide) (by decide +kernel)) ?_
  refine ak (ok_aload_n (k := 0) rfl (by decide +kernel)) ?_
  refine ak (ok_aload_n (k := 0) rfl (by decide +kernel)) ?_
  refine ak (ok_get (k := 11) ck9 kd1 (by decide) (fun _ _ _ => rfl) (vf_1_11 hsd) tw410 (by decide +kernel)) ?_
  refine ak (ok_iload_n (k := 1) rfl (by decide +kernel)) ?_
  refine ak (ok_aald (t0 := 6) (C := RX0) kd14 (by decide) rfl (vr_14 hsd) (by decide +kernel)) ?_
  refine ak (ok_invV (r := 1) (kW_settle hsd l) qW_settle ck9 kd1 iW_settle tw1088 tw31 (by decide) tw1086 (by decide +kernel)) ?_
  refine ak (ok_iinc (n := 1) (by decide) (by decide) (by decide +kernel)) ?_
  refine ak (ok_goto (off := (-31)) (by decide) (by decide +kernel)) ?_
  refine ak (ok_return rfl (by decide +kernel)) ?_
  exact trivial
def KW_endDay_72 (j72 : Nat → Int32 → Mem → Option Mem) : Jm Mem := fun t als st M =>
  if t = 72 then (match als, st with
  | [.inr (.inr (.inl (al0, w0, cl0))), .inl x1], [] => if al0 = 1 ∧ cl0 = 0 then j72 w0 x1 M else none
  | _, _ => none) else
  none
set_option maxRecDepth 1000000 in
theorem eW_endDay_72 (j72 : Nat → Int32 → Mem → Option Mem) (w0 : Nat) (x1 : Int32) (M : Mem) : run (cW_endDay) (KW_endDay_72 j72) rtV 400 (seek (cW_endDay) 72) [aR (1, w0, 0), aI x1] [] M = mW_endDay_72b j72 w0 x1 M := id rfl
theorem lW_endDay_72 {E : EV} {l : Launch} {p : Program} {e : Env} {s : State} {m : MethodId} {args : Array Value} {below : List Frame} {meth : Method} {c : Code} (A : AllOK E l 66 "FreeLances$World" prog_11_method_9_code 2 none outV (cW_endDay)) (C : Cx E p s m args meth c "FreeLances$World" prog_11_method_9_code 2 none) : ∀ (n : Nat), ∀ (w0 : Nat) (x1 : Int32) (M : Mem) (res : Mem), mW_endDay_72 n w0 x1 M = some res → Wm E p l e 66 s m args below meth c 2 72 [aR (1, w0, 0), aI x1] [] M (outV res).1 (outV res).2 := by
  intro n
  induction n with
  | zero => intro _ _ M res h; cases h
  | succ n ih =>
    intro w0 x1 M res h
    refine run_at C A rfl hrtV (n := 400) ((eW_endDay_72 (mW_endDay_72 n) w0 x1 M).trans h) ?_
    intro t als st M hk
    unfold KW_endDay_72 at hk
    split at hk
    · rename_i ht
      subst ht
      split at hk
      · split at hk
        · rename_i hc
          obtain ⟨rfl, rfl⟩ := hc
          exact ih _ _ _ _ hk
        · cases hk
      · cases hk
    cases hk
def KW_endDay_41 (j41 : Nat → Int32 → Mem → Option Mem) (j72 : Nat → Int32 → Mem → Option Mem) : Jm Mem := fun t als st M =>
  if t = 41 then (match als, st with
  | [.inr (.inr (.inl (al0, w0, cl0))), .inl x1], [] => if al0 = 1 ∧ cl0 = 0 then j41 w0 x1 M else none
  | _, _ => none) else
  if t = 72 then (match als, st with
  | [.inr (.inr (.inl (al0, w0, cl0))), .inl x1], [] => if al0 = 1 ∧ cl0 = 0 then j72 w0 x1 M else none
  | _, _ => none) else
  none
set_option maxRecDepth 1000000 in
theorem eW_endDay_41 (j41 : Nat → Int32 → Mem → Option Mem) (j72 : Nat → Int32 → Mem → Option Mem) (w0 : Nat) (x1 : Int32) (M : Mem) : run (cW_endDay) (KW_endDay_41 j41 j72) rtV 400 (seek (cW_endDay) 41) [aR (1, w0, 0), aI x1] [] M = mW_endDay_41b j41 j72 w0 x1 M := id rfl
theorem lW_endDay_41 {E : EV} {l : Launch} {p : Program} {e : Env} {s : State} {m : MethodId} {args : Array Value} {below : List Frame} {meth : Method} {c : Code} (A : AllOK E l 66 "FreeLances$World" prog_11_method_9_code 2 none outV (cW_endDay)) (C : Cx E p s m args meth c "FreeLances$World" prog_11_method_9_code 2 none) : ∀ (n : Nat), ∀ (w0 : Nat) (x1 : Int32) (M : Mem) (res : Mem), mW_endDay_41 n w0 x1 M = some res → Wm E p l e 66 s m args below meth c 2 41 [aR (1, w0, 0), aI x1] [] M (outV res).1 (outV res).2 := by
  intro n
  induction n with
  | zero => intro _ _ M res h; cases h
  | succ n ih =>
    intro w0 x1 M res h
    refine run_at C A rfl hrtV (n := 400) ((eW_endDay_41 (mW_endDay_41 n) (mW_endDay_72 fuel) w0 x1 M).trans h) ?_
    intro t als st M hk
    unfold KW_endDay_41 at hk
    split at hk
    · rename_i ht
      subst ht
      split at hk
      · split at hk
        · rename_i hc
          obtain ⟨rfl, rfl⟩ := hc
          exact ih _ _ _ _ hk
        · cases hk
      · cases hk
    split at hk
    · rename_i ht
      subst ht
      split at hk
      · split at hk
        · rename_i hc
          obtain ⟨rfl, rfl⟩ := hc
          exact lW_endDay_72 A C _ _ _ _ _ hk
        · cases hk
      · cases hk
    cases hk
def KW_endDay_12 (j12 : Nat → Int32 → Mem → Option Mem) (j41 : Nat → Int32 → Mem → Option Mem) : Jm Mem := fun t als st M =>
  if t = 12 then (match als, st with
  | [.inr (.inr (.inl (al0, w0, cl0))), .inl x1], [] => if al0 = 1 ∧ cl0 = 0 then j12 w0 x1 M else none
  | _, _ => none) else
  if t = 41 then (match als, st with
  | [.inr (.inr (.inl (al0, w0, cl0))), .inl x1], [] => if al0 = 1 ∧ cl0 = 0 then j41 w0 x1 M else none
  | _, _ => none) else
  none
set_option maxRecDepth 1000000 in
theorem eW_endDay_12 (j12 : Nat → Int32 → Mem → Option Mem) (j41 : Nat → Int32 → Mem → Option Mem) (w0 : Nat) (x1 : Int32) (M : Mem) : run (cW_endDay) (KW_endDay_12 j12 j41) rtV 400 (seek (cW_endDay) 12) [aR (1, w0, 0), aI x1] [] M = mW_endDay_12b j12 j41 w0 x1 M := id rfl
theorem lW_endDay_12 {E : EV} {l : Launch} {p : Program} {e : Env} {s : State} {m : MethodId} {args : Array Value} {below : List Frame} {meth : Method} {c : Code} (A : AllOK E l 66 "FreeLances$World" prog_11_method_9_code 2 none outV (cW_endDay)) (C : Cx E p s m args meth c "FreeLances$World" prog_11_method_9_code 2 none) : ∀ (n : Nat), ∀ (w0 : Nat) (x1 : Int32) (M : Mem) (res : Mem), mW_endDay_12 n w0 x1 M = some res → Wm E p l e 66 s m args below meth c 2 12 [aR (1, w0, 0), aI x1] [] M (outV res).1 (outV res).2 := by
  intro n
  induction n with
  | zero => intro _ _ M res h; cases h
  | succ n ih =>
    intro w0 x1 M res h
    refine run_at C A rfl hrtV (n := 400) ((eW_endDay_12 (mW_endDay_12 n) (mW_endDay_41 fuel) w0 x1 M).trans h) ?_
    intro t als st M hk
    unfold KW_endDay_12 at hk
    split at hk
    · rename_i ht
      subst ht
      split at hk
      · split at hk
        · rename_i hc
          obtain ⟨rfl, rfl⟩ := hc
          exact ih _ _ _ _ hk
        · cases hk
      · cases hk
    split at hk
    · rename_i ht
      subst ht
      split at hk
      · split at hk
        · rename_i hc
          obtain ⟨rfl, rfl⟩ := hc
          exact lW_endDay_41 A C _ _ _ _ _ hk
        · cases hk
      · cases hk
    cases hk
def KW_endDay (j12 : Nat → Int32 → Mem → Option Mem) : Jm Mem := fun t als st M =>
  if t = 12 then (match als, st with
  | [.inr (.inr (.inl (al0, w0, cl0))), .inl x1], [] => if al0 = 1 ∧ cl0 = 0 then j12 w0 x1 M else none
  | _, _ => none) else
  none
set_option maxRecDepth 1000000 in
theorem eW_endDay (j12 : Nat → Int32 → Mem → Option Mem) (w0 : Nat) (M : Mem) : run (cW_endDay) (KW_endDay j12) rtV 400 (seek (cW_endDay) 0) [aR (1, w0, 0), aU] [] M = mW_endDayb j12 w0 M := id rfl
theorem lW_endDay {E : EV} {l : Launch} {p : Program} {e : Env} {s : State} {m : MethodId} {args : Array Value} {below : List Frame} {meth : Method} {c : Code} (A : AllOK E l 66 "FreeLances$World" prog_11_method_9_code 2 none outV (cW_endDay)) (C : Cx E p s m args meth c "FreeLances$World" prog_11_method_9_code 2 none) : ∀ (w0 : Nat) (M : Mem) (res : Mem), mW_endDay w0 M = some res → Wm E p l e 66 s m args below meth c 2 0 [aR (1, w0, 0), aU] [] M (outV res).1 (outV res).2 := by
  intro w0 M res h
  refine run_at C A rfl hrtV (n := 400) ((eW_endDay (mW_endDay_12 fuel) w0 M).trans h) ?_
  intro t als st M hk
  unfold KW_endDay at hk
  split at hk
  · rename_i ht
    subst ht
    split at hk
    · split at hk
      · rename_i hc
        obtain ⟨rfl, rfl⟩ := hc
        exact lW_endDay_12 A C _ _ _ _ _ hk
      · cases hk
    · cases hk
  cases hk
def dW_endDay {β : Type} : Den β := fun as M k => match as with
  | [.inr (.inr (.inl (al0, w0, cl0)))] => if al0 = 1 ∧ cl0 = 0 then (mW_endDay w0 M).bind fun q => k aU q else none
  | _ => none
theorem wW_endDay {E : EV} (hsd : E.2.2.2 = 0) (l : Launch) (w0 : Nat) (M : Mem) (q : Mem) (hq : mW_endDay w0 M = some q) : Con E l 66 yW_endDay prog_11_method_9_code 2 none [aR (1, w0, 0)] M (outV q).1 (outV q).2 := by
  refine con_of iW_endDay (Nat.le_of_ble_eq_true rfl) ?_
  intro p e s m args below meth c C
  exact lW_endDay (oW_endDay hsd l) C w0 M _ hq
theorem kW_endDay {E : EV} (hsd : E.2.2.2 = 0) (l : Launch) {β : Type} : DenOK E l 66 yW_endDay prog_11_method_9_code 2 none false (dW_endDay (β := β)) := by
  intro as M k res h
  unfold dW_endDay at h
  split at h
  ·
    split at h
    · rename_i hc
      obtain ⟨rfl, rfl⟩ := hc
      obtain ⟨q, hq, hk⟩ := Option.bind_eq_some_iff.mp h
      exact ⟨aU, q, hk, rfl, wW_endDay hsd l _ M q hq⟩
    · cases h
  · cases h
theorem qW_endDay {β : Type} : RecOK 1 (dW_endDay (β := β)) := by
  intro as M k res h
  unfold dW_endDay at h
  split at h
  ·
    split at h
    · rename_i hc
      obtain ⟨rfl, rfl⟩ := hc
      exact ⟨_, _, _, rfl⟩
    · cases h
  · cases h
/-! ===== FreeLances.days(I)I ===== -/
abbrev yF_days : MethodName := ⟨"FreeLances", "days", "(I)I"⟩
theorem iF_days : MI yF_days prog_1_method_43_code 3 (some .int) 1 := ⟨tw1063, tw97, ⟨by decide, by decide⟩, by decide +kernel, by decide, by decide⟩
def cF_days : List (Ent (Int32 × Mem)) := [(false, 0, 1, sLdI 1),
  (false, 1, 1, sC 1),
  (false, 2, 3, sC 200),
  (false, 5, 3, sInv 3 true dF_within),
  (false, 8, 3, sIfEq 26),
  (false, 11, 1, sLdA 0),
  (false, 12, 3, sGet 0 (fun w i M => aR (1, 0, 0))),
  (false, 15, 3, sGet 1 (fun w i M => aI (M 1 w i 0))),
  (false, 18, 1, sLdI 1),
  (false, 19, 1, sBin (fun x y => x + y)),
  (false, 20, 3, sC 3000),
  (false, 23, 3, sCmpLe 32),
  (false, 26, 1, sLdA 0),
  (false, 27, 1, sC 1),
  (false, 28, 3, sInv 2 true dF_finding),
  (false, 31, 1, sRetI),
  (false, 32, 1, sC 0),
  (false, 33, 1, sStI 2),
  (true, 34, 1, sLdI 2),
  (false, 35, 1, sLdI 1),
  (false, 36, 3, sCmpGe 52),
  (false, 39, 1, sLdA 0),
  (false, 40, 3, sGet 0 (fun w i M => aR (1, 0, 0))),
  (false, 43, 3, sInv 1 false dW_endDay),
  (false, 46, 3, sInc 2 1),
  (false, 49, 3, sGoto 34),
  (false, 52, 1, sLdA 0),
  (false, 53, 3, sGet 0 (fun w i M => aR (1, 0, 0))),
  (false, 56, 3, sGet 1 (fun w i M => aI (M 1 w i 0))),
  (false, 59, 1, sRetI)]
theorem oF_days {E : EV} (hsd : E.2.2.2 = 0) (l : Launch) : AllOK E l 67 "FreeLances" prog_1_method_43_code 3 (some .int) outI (cF_days) := by
  refine ak (ok_iload_n (k := 1) rfl (by decide +kernel)) ?_
  refine ak (ok_iconst (n := 1) (by decide) (by decide +kernel)) ?_
  refine ak (ok_sipush (n := 200) (by decide) (by decide +kernel)) ?_
  refine ak (ok_invS (kF_within hsd l) iF_within tw553 (by decide) tw552 (by decide +kernel)) ?_
  refine ak (ok_if_eq (off := 18) (by decide) (by decide +kernel)) ?_
  refine ak (ok_aload_n (k := 0) rfl (by decide +kernel)) ?_
  refine ak (ok_get (k := 0) ck10 kd0 (by decide) (fun _ _ _ => rfl) (vf_0_0 hsd) tw522 (by decide +kernel)) ?_
  refine ak (ok_get (k := 0) ck9 kd1 (by decide) (fun _ _ _ => rfl) (fun _ _ _ _ _ => trivial) tw387 (by decide +kernel)) ?_
  refine ak (ok_iload_n (k := 1) rfl (by decide +kernel)) ?_
  refine ak (ok_iadd (by decide +kernel)) ?_
  refine ak (ok_sipush (n := 3000) (by decide) (by decide +kernel)) ?_
  refine ak (ok_icmp_le (off := 9) (by decide) (by decide +kernel)) ?_
  refine ak (ok_aload_n (k := 0) rfl (by decide +kernel)) ?_
  refine ak (ok_iconst (n := 1) (by decide) (by decide +kernel)) ?_
  refine ak (ok_invV (r := 0) (kF_finding hsd l) qF_finding ck10 kd0 iF_finding tw557 tw0 (by decide) tw555 (by decide +kernel)) ?_
  refine ak (ok_ireturn rfl (by decide +kernel)) ?_
  refine ak (ok_iconst (n := 0) (by decide) (by decide +kernel)) ?_
  refine ak (ok_istore_n (k := 2) rfl (by decide) (by decide +kernel)) ?_
  refine ak (ok_iload_n (k := 2) rfl (by decide +kernel)) ?_
  refine ak (ok_iload_n (k := 1) rfl (by decide +kernel)) ?_
  refine ak (ok_icmp_ge (off := 16) (by decide) (by decide +kernel)) ?_
  refine ak (ok_aload_n (k := 0) rfl (by decide +kernel)) ?_
  refine ak (ok_get (k := 0) ck10 kd0 (by decide) (fun _ _ _ => rfl) (vf_0_0 hsd) tw522 (by decide +kernel)) ?_
  refine ak (ok_invV (r := 1) (kW_endDay hsd l) qW_endDay ck9 kd1 iW_endDay tw1065 tw1066 (by decide) tw1064 (by decide +kernel)) ?_
  refine ak (ok_iinc (n := 1) (by decide) (by decide) (by decide +kernel)) ?_
  refine ak (ok_goto (off := (-15)) (by decide) (by decide +kernel)) ?_
  refine ak (ok_aload_n (k := 0) rfl (by decide +kernel)) ?_
  refine ak (ok_get (k := 0) ck10 kd0 (by decide) (fun _ _ _ => rfl) (vf_0_0 hsd) tw522 (by decide +kernel)) ?_
  refine ak (ok_get (k := 0) ck9 kd1 (by decide) (fun _ _ _ => rfl) (fun _ _ _ _ _ => trivial) tw387 (by decide +kernel)) ?_
  refine ak (ok_ireturn rfl (by decide +kernel)) ?_
  exact trivial
def KF_days_34 (j34 : Int32 → Int32 → Mem → Option (Int32 × Mem)) : Jm (Int32 × Mem) := fun t als st M =>
  if t = 34 then (match als, st with
  | [.inr (.inr (.inl (al0, bl0, cl0))), .inl x1, .inl x2], [] => if al0 = 0 ∧ bl0 = 0 ∧ cl0 = 0 then j34 x1 x2 M else none
  | _, _ => none) else
  none
set_option maxRecDepth 1000000 in
theorem eF_days_34 (j34 : Int32 → Int32 → Mem → Option (Int32 × Mem)) (x1 : Int32) (x2 : Int32) (M : Mem) : run (cF_days) (KF_days_34 j34) rtI 400 (seek (cF_days) 34) [aR (0, 0, 0), aI x1, aI x2] [] M = mF_days_34b j34 x1 x2 M := id rfl
theorem lF_days_34 {E : EV} {l : Launch} {p : Program} {e : Env} {s : State} {m : MethodId} {args : Array Value} {below : List Frame} {meth : Method} {c : Code} (A : AllOK E l 67 "FreeLances" prog_1_method_43_code 3 (some .int) outI (cF_days)) (C : Cx E p s m args meth c "FreeLances" prog_1_method_43_code 3 (some .int)) : ∀ (n : Nat), ∀ (x1 : Int32) (x2 : Int32) (M : Mem) (res : (Int32 × Mem)), mF_days_34 n x1 x2 M = some res → Wm E p l e 67 s m args below meth c 3 34 [aR (0, 0, 0), aI x1, aI x2] [] M (outI res).1 (outI res).2 := by
  intro n
  induction n with
  | zero => intro _ _ M res h; cases h
  | succ n ih =>
    intro x1 x2 M res h
    refine run_at C A rfl hrtI (n := 400) ((eF_days_34 (mF_days_34 n) x1 x2 M).trans h) ?_
    intro t als st M hk
    unfold KF_days_34 at hk
    split at hk
    · rename_i ht
      subst ht
      split at hk
      · split at hk
        · rename_i hc
          obtain ⟨rfl, rfl, rfl⟩ := hc
          exact ih _ _ _ _ hk
        · cases hk
      · cases hk
    cases hk
def KF_days (j34 : Int32 → Int32 → Mem → Option (Int32 × Mem)) : Jm (Int32 × Mem) := fun t als st M =>
  if t = 34 then (match als, st with
  | [.inr (.inr (.inl (al0, bl0, cl0))), .inl x1, .inl x2], [] => if al0 = 0 ∧ bl0 = 0 ∧ cl0 = 0 then j34 x1 x2 M else none
  | _, _ => none) else
  none
set_option maxRecDepth 1000000 in
theorem eF_days (j34 : Int32 → Int32 → Mem → Option (Int32 × Mem)) (x1 : Int32) (M : Mem) : run (cF_days) (KF_days j34) rtI 400 (seek (cF_days) 0) [aR (0, 0, 0), aI x1, aU] [] M = mF_daysb j34 x1 M := id rfl
theorem lF_days {E : EV} {l : Launch} {p : Program} {e : Env} {s : State} {m : MethodId} {args : Array Value} {below : List Frame} {meth : Method} {c : Code} (A : AllOK E l 67 "FreeLances" prog_1_method_43_code 3 (some .int) outI (cF_days)) (C : Cx E p s m args meth c "FreeLances" prog_1_method_43_code 3 (some .int)) : ∀ (x1 : Int32) (M : Mem) (res : (Int32 × Mem)), mF_days x1 M = some res → Wm E p l e 67 s m args below meth c 3 0 [aR (0, 0, 0), aI x1, aU] [] M (outI res).1 (outI res).2 := by
  intro x1 M res h
  refine run_at C A rfl hrtI (n := 400) ((eF_days (mF_days_34 fuel) x1 M).trans h) ?_
  intro t als st M hk
  unfold KF_days at hk
  split at hk
  · rename_i ht
    subst ht
    split at hk
    · split at hk
      · rename_i hc
        obtain ⟨rfl, rfl, rfl⟩ := hc
        exact lF_days_34 A C _ _ _ _ _ hk
      · cases hk
    · cases hk
  cases hk
def dF_days {β : Type} : Den β := fun as M k => match as with
  | [.inr (.inr (.inl (al0, bl0, cl0))), .inl x1] => if al0 = 0 ∧ bl0 = 0 ∧ cl0 = 0 then (mF_days x1 M).bind fun q => k (aI q.1) q.2 else none
  | _ => none
theorem wF_days {E : EV} (hsd : E.2.2.2 = 0) (l : Launch) (x1 : Int32) (M : Mem) (q : (Int32 × Mem)) (hq : mF_days x1 M = some q) : Con E l 67 yF_days prog_1_method_43_code 3 (some .int) [aR (0, 0, 0), aI x1] M (outI q).1 (outI q).2 := by
  refine con_of iF_days (Nat.le_of_ble_eq_true rfl) ?_
  intro p e s m args below meth c C
  exact lF_days (oF_days hsd l) C x1 M _ hq
theorem kF_days {E : EV} (hsd : E.2.2.2 = 0) (l : Launch) {β : Type} : DenOK E l 67 yF_days prog_1_method_43_code 3 (some .int) true (dF_days (β := β)) := by
  intro as M k res h
  unfold dF_days at h
  split at h
  ·
    split at h
    · rename_i hc
      obtain ⟨rfl, rfl, rfl⟩ := hc
      obtain ⟨q, hq, hk⟩ := Option.bind_eq_some_iff.mp h
      exact ⟨aI q.1, q.2, hk, rfl, wF_days hsd l _ M q hq⟩
    · cases h
  · cases h
theorem qF_days {β : Type} : RecOK 0 (dF_days (β := β)) := by
  intro as M k res h
  unfold dF_days at h
  split at h
  ·
    split at h
    · rename_i hc
      obtain ⟨rfl, rfl, rfl⟩ := hc
      exact ⟨_, _, _, rfl⟩
    · cases h
  · cases h
/-! ===== FreeLances$Town.copy(LFreeLances$Town;)V ===== -/
abbrev yT_copy : MethodName := ⟨"FreeLances$Town", "copy", "(LFreeLances$Town;)V"⟩
theorem iT_copy : MI yT_copy prog_9_method_3_code 2 none 1 := ⟨tw1108, tw100, ⟨by decide, by decide⟩, by decide +kernel, by decide, by decide⟩
def cT_copy : List (Ent Mem) := [(false, 0, 1, sLdA 0),
  (false, 1, 1, sLdA 1),
  (false, 2, 3, sGet 3 (fun w i M => aI (M 3 w i 0))),
  (false, 5, 3, sPut 3 0),
  (false, 8, 1, sLdA 0),
  (false, 9, 1, sLdA 1),
  (false, 10, 3, sGet 3 (fun w i M => aI (M 3 w i 1))),
  (false, 13, 3, sPut 3 1),
  (false, 16, 1, sLdA 0),
  (false, 17, 1, sLdA 1),
  (false, 18, 3, sGet 3 (fun w i M => aI (M 3 w i 2))),
  (false, 21, 3, sPut 3 2),
  (false, 24, 1, sLdA 0),
  (false, 25, 1, sLdA 1),
  (false, 26, 3, sGet 3 (fun w i M => aI (M 3 w i 3))),
  (false, 29, 3, sPut 3 3),
  (false, 32, 1, sRetV)]
theorem oT_copy {E : EV} (hsd : E.2.2.2 = 0) (l : Launch) : AllOK E l 1 "FreeLances$Town" prog_9_method_3_code 2 none outV (cT_copy) := by
  refine ak (ok_aload_n (k := 0) rfl (by decide +kernel)) ?_
  refine ak (ok_aload_n (k := 1) rfl (by decide +kernel)) ?_
  refine ak (ok_get (k := 0) ck7 kd3 (by decide) (fun _ _ _ => rfl) (fun _ _ _ _ _ => trivial) tw174 (by decide +kernel)) ?_
  refine ak (ok_put (k := 0) ck7 kd3 (by decide) (fun _ _ _ => rfl) rfl rfl (by decide) tw174 (by decide +kernel)) ?_
  refine ak (ok_aload_n (k := 0) rfl (by decide +kernel)) ?_
  refine ak (ok_aload_n (k := 1) rfl (by decide +kernel)) ?_
  refine ak (ok_get (k := 1) ck7 kd3 (by decide) (fun _ _ _ => rfl) (fun _ _ _ _ _ => trivial) tw177 (by decide +kernel)) ?_
  refine ak (ok_put (k := 1) ck7 kd3 (by decide) (fun _ _ _ => rfl) rfl rfl (by decide) tw177 (by decide +kernel)) ?_
  refine ak (ok_aload_n (k := 0) rfl (by decide +kernel)) ?_
  refine ak (ok_aload_n (k := 1) rfl (by decide +kernel)) ?_
  refine ak (ok_get (k := 2) ck7 kd3 (by decide) (fun _ _ _ => rfl) (fun _ _ _ _ _ => trivial) tw180 (by decide +kernel)) ?_
  refine ak (ok_put (k := 2) ck7 kd3 (by decide) (fun _ _ _ => rfl) rfl rfl (by decide) tw180 (by decide +kernel)) ?_
  refine ak (ok_aload_n (k := 0) rfl (by decide +kernel)) ?_
  refine ak (ok_aload_n (k := 1) rfl (by decide +kernel)) ?_
  refine ak (ok_get (k := 3) ck7 kd3 (by decide) (fun _ _ _ => rfl) (fun _ _ _ _ _ => trivial) tw182 (by decide +kernel)) ?_
  refine ak (ok_put (k := 3) ck7 kd3 (by decide) (fun _ _ _ => rfl) rfl rfl (by decide) tw182 (by decide +kernel)) ?_
  refine ak (ok_return rfl (by decide +kernel)) ?_
  exact trivial
set_option maxRecDepth 1000000 in
theorem eT_copy (w0 : Nat) (i0 : Nat) (w1 : Nat) (i1 : Nat) (M : Mem) : run (cT_copy) (fun _ _ _ _ => none) rtV 400 (seek (cT_copy) 0) [aR (3, w0, i0), aR (3, w1, i1)] [] M = mT_copy w0 i0 w1 i1 M := id rfl
theorem lT_copy {E : EV} {l : Launch} {p : Program} {e : Env} {s : State} {m : MethodId} {args : Array Value} {below : List Frame} {meth : Method} {c : Code} (A : AllOK E l 1 "FreeLances$Town" prog_9_method_3_code 2 none outV (cT_copy)) (C : Cx E p s m args meth c "FreeLances$Town" prog_9_method_3_code 2 none) : ∀ (w0 : Nat) (i0 : Nat) (w1 : Nat) (i1 : Nat) (M : Mem) (res : Mem), mT_copy w0 i0 w1 i1 M = some res → Wm E p l e 1 s m args below meth c 2 0 [aR (3, w0, i0), aR (3, w1, i1)] [] M (outV res).1 (outV res).2 := by
  intro w0 i0 w1 i1 M res h
  refine run_at C A rfl hrtV (n := 400) ((eT_copy w0 i0 w1 i1 M).trans h) ?_
  intro t als st M hk; cases hk
def dT_copy {β : Type} : Den β := fun as M k => match as with
  | [.inr (.inr (.inl (al0, w0, i0))), .inr (.inr (.inl (al1, w1, i1)))] => if al0 = 3 ∧ al1 = 3 then (mT_copy w0 i0 w1 i1 M).bind fun q => k aU q else none
  | _ => none
theorem wT_copy {E : EV} (hsd : E.2.2.2 = 0) (l : Launch) (w0 : Nat) (i0 : Nat) (w1 : Nat) (i1 : Nat) (M : Mem) (q : Mem) (hq : mT_copy w0 i0 w1 i1 M = some q) : Con E l 1 yT_copy prog_9_method_3_code 2 none [aR (3, w0, i0), aR (3, w1, i1)] M (outV q).1 (outV q).2 := by
  refine con_of iT_copy (Nat.le_of_ble_eq_true rfl) ?_
  intro p e s m args below meth c C
  exact lT_copy (oT_copy hsd l) C w0 i0 w1 i1 M _ hq
theorem kT_copy {E : EV} (hsd : E.2.2.2 = 0) (l : Launch) {β : Type} : DenOK E l 1 yT_copy prog_9_method_3_code 2 none false (dT_copy (β := β)) := by
  intro as M k res h
  unfold dT_copy at h
  split at h
  ·
    split at h
    · rename_i hc
      obtain ⟨rfl, rfl⟩ := hc
      obtain ⟨q, hq, hk⟩ := Option.bind_eq_some_iff.mp h
      exact ⟨aU, q, hk, rfl, wT_copy hsd l _ _ _ _ M q hq⟩
    · cases h
  · cases h
theorem qT_copy {β : Type} : RecOK 3 (dT_copy (β := β)) := by
  intro as M k res h
  unfold dT_copy at h
  split at h
  ·
    split at h
    · rename_i hc
      obtain ⟨rfl, rfl⟩ := hc
      exact ⟨_, _, _, rfl⟩
    · cases h
  · cases h
/-! ===== FreeLances$Company.copy(LFreeLances$Company;)V ===== -/
abbrev yC_copy : MethodName := ⟨"FreeLances$Company", "copy", "(LFreeLances$Company;)V"⟩
theorem iC_copy : MI yC_copy prog_3_method_3_code 2 none 1 := ⟨tw1112, tw101, ⟨by decide, by decide⟩, by decide +kernel, by decide, by decide⟩
def cC_copy : List (Ent Mem) := [(false, 0, 1, sLdA 0),
  (false, 1, 1, sLdA 1),
  (false, 2, 3, sGet 6 (fun w i M => aI (M 6 w i 0))),
  (false, 5, 3, sPut 6 0),
  (false, 8, 1, sLdA 0),
  (false, 9, 1, sLdA 1),
  (false, 10, 3, sGet 6 (fun w i M => aI (M 6 w i 1))),
  (false, 13, 3, sPut 6 1),
  (false, 16, 1, sLdA 0),
  (false, 17, 1, sLdA 1),
  (false, 18, 3, sGet 6 (fun w i M => aI (M 6 w i 2))),
  (false, 21, 3, sPut 6 2),
  (false, 24, 1, sLdA 0),
  (false, 25, 1, sLdA 1),
  (false, 26, 3, sGet 6 (fun w i M => aI (M 6 w i 3))),
  (false, 29, 3, sPut 6 3),
  (false, 32, 1, sLdA 0),
  (false, 33, 1, sLdA 1),
  (false, 34, 3, sGet 6 (fun w i M => aI (M 6 w i 4))),
  (false, 37, 3, sPut 6 4),
  (false, 40, 1, sLdA 0),
  (false, 41, 1, sLdA 1),
  (false, 42, 3, sGet 6 (fun w i M => aI (M 6 w i 5))),
  (false, 45, 3, sPut 6 5),
  (false, 48, 1, sLdA 0),
  (false, 49, 1, sLdA 1),
  (false, 50, 3, sGet 6 (fun w i M => aI (M 6 w i 6))),
  (false, 53, 3, sPut 6 6),
  (false, 56, 1, sLdA 0),
  (false, 57, 1, sLdA 1),
  (false, 58, 3, sGet 6 (fun w i M => aI (M 6 w i 7))),
  (false, 61, 3, sPut 6 7),
  (false, 64, 1, sLdA 0),
  (false, 65, 1, sLdA 1),
  (false, 66, 3, sGet 6 (fun w i M => aI (M 6 w i 8))),
  (false, 69, 3, sPut 6 8),
  (false, 72, 1, sLdA 0),
  (false, 73, 1, sLdA 1),
  (false, 74, 3, sGet 6 (fun w i M => aI (M 6 w i 9))),
  (false, 77, 3, sPut 6 9),
  (false, 80, 1, sLdA 0),
  (false, 81, 1, sLdA 1),
  (false, 82, 3, sGet 6 (fun w i M => aI (M 6 w i 10))),
  (false, 85, 3, sPut 6 10),
  (false, 88, 1, sLdA 0),
  (false, 89, 1, sLdA 1),
  (false, 90, 3, sGet 6 (fun w i M => aI (M 6 w i 11))),
  (false, 93, 3, sPut 6 11),
  (false, 96, 1, sLdA 1),
  (false, 97, 3, sGet 6 (fun w i M => aR (7, w, i))),
  (false, 100, 1, sC 0),
  (false, 101, 1, sLdA 0),
  (false, 102, 3, sGet 6 (fun w i M => aR (7, w, i))),
  (false, 105, 1, sC 0),
  (false, 106, 2, sC 12),
  (false, 108, 3, sCopy 7 (fun _ => 12)),
  (false, 111, 1, sLdA 1),
  (false, 112, 3, sGet 6 (fun w i M => aR (8, w, i))),
  (false, 115, 1, sC 0),
  (false, 116, 1, sLdA 0),
  (false, 117, 3, sGet 6 (fun w i M => aR (8, w, i))),
  (false, 120, 1, sC 0),
  (false, 121, 2, sC 8),
  (false, 123, 3, sCopy 8 (fun _ => 8)),
  (false, 126, 1, sRetV)]
theorem oC_copy {E : EV} (hsd : E.2.2.2 = 0) (l : Launch) : AllOK E l 1 "FreeLances$Company" prog_3_method_3_code 2 none outV (cC_copy) := by
  refine ak (ok_aload_n (k := 0) rfl (by decide +kernel)) ?_
  refine ak (ok_aload_n (k := 1) rfl (by decide +kernel)) ?_
  refine ak (ok_get (k := 0) ck1 kd6 (by decide) (fun _ _ _ => rfl) (fun _ _ _ _ _ => trivial) tw198 (by decide +kernel)) ?_
  refine ak (ok_put (k := 0) ck1 kd6 (by decide) (fun _ _ _ => rfl) rfl rfl (by decide) tw198 (by decide +kernel)) ?_
  refine ak (ok_aload_n (k := 0) rfl (by decide +kernel)) ?_
  refine ak (ok_aload_n (k := 1) rfl (by decide +kernel)) ?_
  refine ak (ok_get (k := 1) ck1 kd6 (by decide) (fun _ _ _ => rfl) (fun _ _ _ _ _ => trivial) tw201 (by decide +kernel)) ?_
  refine ak (ok_put (k := 1) ck1 kd6 (by decide) (fun _ _ _ => rfl) rfl rfl (by decide) tw201 (by decide +kernel)) ?_
  refine ak (ok_aload_n (k := 0) rfl (by decide +kernel)) ?_
  refine ak (ok_aload_n (k := 1) rfl (by decide +kernel)) ?_
  refine ak (ok_get (k := 2) ck1 kd6 (by decide) (fun _ _ _ => rfl) (fun _ _ _ _ _ => trivial) tw204 (by decide +kernel)) ?_
  refine ak (ok_put (k := 2) ck1 kd6 (by decide) (fun _ _ _ => rfl) rfl rfl (by decide) tw204 (by decide +kernel)) ?_
  refine ak (ok_aload_n (k := 0) rfl (by decide +kernel)) ?_
  refine ak (ok_aload_n (k := 1) rfl (by decide +kernel)) ?_
  refine ak (ok_get (k := 3) ck1 kd6 (by decide) (fun _ _ _ => rfl) (fun _ _ _ _ _ => trivial) tw207 (by decide +kernel)) ?_
  refine ak (ok_put (k := 3) ck1 kd6 (by decide) (fun _ _ _ => rfl) rfl rfl (by decide) tw207 (by decide +kernel)) ?_
  refine ak (ok_aload_n (k := 0) rfl (by decide +kernel)) ?_
  refine ak (ok_aload_n (k := 1) rfl (by decide +kernel)) ?_
  refine ak (ok_get (k := 4) ck1 kd6 (by decide) (fun _ _ _ => rfl) (fun _ _ _ _ _ => trivial) tw210 (by decide +kernel)) ?_
  refine ak (ok_put (k := 4) ck1 kd6 (by decide) (fun _ _ _ => rfl) rfl rfl (by decide) tw210 (by decide +kernel)) ?_
  refine ak (ok_aload_n (k := 0) rfl (by decide +kernel)) ?_
  refine ak (ok_aload_n (k := 1) rfl (by decide +kernel)) ?_
  refine ak (ok_get (k := 5) ck1 kd6 (by decide) (fun _ _ _ => rfl) (fun _ _ _ _ _ => trivial) tw212 (by decide +kernel)) ?_
  refine ak (ok_put (k := 5) ck1 kd6 (by decide) (fun _ _ _ => rfl) rfl rfl (by decide) tw212 (by decide +kernel)) ?_
  refine ak (ok_aload_n (k := 0) rfl (by decide +kernel)) ?_
  refine ak (ok_aload_n (k := 1) rfl (by decide +kernel)) ?_
  refine ak (ok_get (k := 6) ck1 kd6 (by decide) (fun _ _ _ => rfl) (fun _ _ _ _ _ => trivial) tw214 (by decide +kernel)) ?_
  refine ak (ok_put (k := 6) ck1 kd6 (by decide) (fun _ _ _ => rfl) rfl rfl (by decide) tw214 (by decide +kernel)) ?_
  refine ak (ok_aload_n (k := 0) rfl (by decide +kernel)) ?_
  refine ak (ok_aload_n (k := 1) rfl (by decide +kernel)) ?_
  refine ak (ok_get (k := 7) ck1 kd6 (by decide) (fun _ _ _ => rfl) (fun _ _ _ _ _ => trivial) tw218 (by decide +kernel)) ?_
  refine ak (ok_put (k := 7) ck1 kd6 (by decide) (fun _ _ _ => rfl) rfl rfl (by decide) tw218 (by decide +kernel)) ?_
  refine ak (ok_aload_n (k := 0) rfl (by decide +kernel)) ?_
  refine ak (ok_aload_n (k := 1) rfl (by decide +kernel)) ?_
  refine ak (ok_get (k := 8) ck1 kd6 (by decide) (fun _ _ _ => rfl) (fun _ _ _ _ _ => trivial) tw221 (by decide +kernel)) ?_
  refine ak (ok_put (k := 8) ck1 kd6 (by decide) (fun _ _ _ => rfl) rfl rfl (by decide) tw221 (by decide +kernel)) ?_
  refine ak (ok_aload_n (k := 0) rfl (by decide +kernel)) ?_
  refine ak (ok_aload_n (k := 1) rfl (by decide +kernel)) ?_
  refine ak (ok_get (k := 9) ck1 kd6 (by decide) (fun _ _ _ => rfl) (fun _ _ _ _ _ => trivial) tw224 (by decide +kernel)) ?_
  refine ak (ok_put (k := 9) ck1 kd6 (by decide) (fun _ _ _ => rfl) rfl rfl (by decide) tw224 (by decide +kernel)) ?_
  refine ak (ok_aload_n (k := 0) rfl (by decide +kernel)) ?_
  refine ak (ok_aload_n (k := 1) rfl (by decide +kernel)) ?_
  refine ak (ok_get (k := 10) ck1 kd6 (by decide) (fun _ _ _ => rfl) (fun _ _ _ _ _ => trivial) tw226 (by decide +kernel)) ?_
  refine ak (ok_put (k := 10) ck1 kd6 (by decide) (fun _ _ _ => rfl) rfl rfl (by decide) tw226 (by decide +kernel)) ?_
  refine ak (ok_aload_n (k := 0) rfl (by decide +kernel)) ?_
  refine ak (ok_aload_n (k := 1) rfl (by decide +kernel)) ?_
  refine ak (ok_get (k := 11) ck1 kd6 (by decide) (fun _ _ _ => rfl) (fun _ _ _ _ _ => trivial) tw228 (by decide +kernel)) ?_
  refine ak (ok_put (k := 11) ck1 kd6 (by decide) (fun _ _ _ => rfl) rfl rfl (by decide) tw228 (by decide +kernel)) ?_
  refine ak (ok_aload_n (k := 1) rfl (by decide +kernel)) ?_
  refine ak (ok_get (k := 12) ck1 kd6 (by decide) (fun _ _ _ => rfl) (vf_6_12 hsd) tw231 (by decide +kernel)) ?_
  refine ak (ok_iconst (n := 0) (by decide) (by decide +kernel)) ?_
  refine ak (ok_aload_n (k := 0) rfl (by decide +kernel)) ?_
  refine ak (ok_get (k := 12) ck1 kd6 (by decide) (fun _ _ _ => rfl) (vf_6_12 hsd) tw231 (by decide +kernel)) ?_
  refine ak (ok_iconst (n := 0) (by decide) (by decide +kernel)) ?_
  refine ak (ok_bipush (n := 12) (by decide) (by decide +kernel)) ?_
  refine ak (ok_copyI kd7 (by decide) (by decide) (by decide) tw1113 tw790 tw789 tw110 (by decide +kernel)) ?_
  refine ak (ok_aload_n (k := 1) rfl (by decide +kernel)) ?_
  refine ak (ok_get (k := 13) ck1 kd6 (by decide) (fun _ _ _ => rfl) (vf_6_13 hsd) tw233 (by decide +kernel)) ?_
  refine ak (ok_iconst (n := 0) (by decide) (by decide +kernel)) ?_
  refine ak (ok_aload_n (k := 0) rfl (by decide +kernel)) ?_
  refine ak (ok_get (k := 13) ck1 kd6 (by decide) (fun _ _ _ => rfl) (vf_6_13 hsd) tw233 (by decide +kernel)) ?_
  refine ak (ok_iconst (n := 0) (by decide) (by decide +kernel)) ?_
  refine ak (ok_bipush (n := 8) (by decide) (by decide +kernel)) ?_
  refine ak (ok_copyI kd8 (by decide) (by decide) (by decide) tw1113 tw790 tw789 tw110 (by decide +kernel)) ?_
  refine ak (ok_return rfl (by decide +kernel)) ?_
  exact trivial
set_option maxRecDepth 1000000 in
theorem eC_copy (w0 : Nat) (i0 : Nat) (w1 : Nat) (i1 : Nat) (M : Mem) : run (cC_copy) (fun _ _ _ _ => none) rtV 400 (seek (cC_copy) 0) [aR (6, w0, i0), aR (6, w1, i1)] [] M = mC_copy w0 i0 w1 i1 M := id rfl
theorem lC_copy {E : EV} {l : Launch} {p : Program} {e : Env} {s : State} {m : MethodId} {args : Array Value} {below : List Frame} {meth : Method} {c : Code} (A : AllOK E l 1 "FreeLances$Company" prog_3_method_3_code 2 none outV (cC_copy)) (C : Cx E p s m args meth c "FreeLances$Company" prog_3_method_3_code 2 none) : ∀ (w0 : Nat) (i0 : Nat) (w1 : Nat) (i1 : Nat) (M : Mem) (res : Mem), mC_copy w0 i0 w1 i1 M = some res → Wm E p l e 1 s m args below meth c 2 0 [aR (6, w0, i0), aR (6, w1, i1)] [] M (outV res).1 (outV res).2 := by
  intro w0 i0 w1 i1 M res h
  refine run_at C A rfl hrtV (n := 400) ((eC_copy w0 i0 w1 i1 M).trans h) ?_
  intro t als st M hk; cases hk
def dC_copy {β : Type} : Den β := fun as M k => match as with
  | [.inr (.inr (.inl (al0, w0, i0))), .inr (.inr (.inl (al1, w1, i1)))] => if al0 = 6 ∧ al1 = 6 then (mC_copy w0 i0 w1 i1 M).bind fun q => k aU q else none
  | _ => none
theorem wC_copy {E : EV} (hsd : E.2.2.2 = 0) (l : Launch) (w0 : Nat) (i0 : Nat) (w1 : Nat) (i1 : Nat) (M : Mem) (q : Mem) (hq : mC_copy w0 i0 w1 i1 M = some q) : Con E l 1 yC_copy prog_3_method_3_code 2 none [aR (6, w0, i0), aR (6, w1, i1)] M (outV q).1 (outV q).2 := by
  refine con_of iC_copy (Nat.le_of_ble_eq_true rfl) ?_
  intro p e s m args below meth c C
  exact lC_copy (oC_copy hsd l) C w0 i0 w1 i1 M _ hq
theorem kC_copy {E : EV} (hsd : E.2.2.2 = 0) (l : Launch) {β : Type} : DenOK E l 1 yC_copy prog_3_method_3_code 2 none false (dC_copy (β := β)) := by
  intro as M k res h
  unfold dC_copy at h
  split at h
  ·
    split at h
    · rename_i hc
      obtain ⟨rfl, rfl⟩ := hc
      obtain ⟨q, hq, hk⟩ := Option.bind_eq_some_iff.mp h
      exact ⟨aU, q, hk, rfl, wC_copy hsd l _ _ _ _ M q hq⟩
    · cases h
  · cases h
theorem qC_copy {β : Type} : RecOK 6 (dC_copy (β := β)) := by
  intro as M k res h
  unfold dC_copy at h
  split at h
  ·
    split at h
    · rename_i hc
      obtain ⟨rfl, rfl⟩ := hc
      exact ⟨_, _, _, rfl⟩
    · cases h
  · cases h
/-! ===== FreeLances$Lance.copy(LFreeLances$Lance;)V ===== -/
abbrev yL_copy : MethodName := ⟨"FreeLances$Lance", "copy", "(LFreeLances$Lance;)V"⟩
theorem iL_copy : MI yL_copy prog_4_method_3_code 2 none 1 := ⟨tw1117, tw102, ⟨by decide, by decide⟩, by decide +kernel, by decide, by decide⟩
def cL_copy : List (Ent Mem) := [(false, 0, 1, sLdA 0),
  (false, 1, 1, sLdA 1),
  (false, 2, 3, sGet 10 (fun w i M => aI (M 10 w i 0))),
  (false, 5, 3, sPut 10 0),
  (false, 8, 1, sLdA 0),
  (false, 9, 1, sLdA 1),
  (false, 10, 3, sGet 10 (fun w i M => aI (M 10 w i 1))),
  (false, 13, 3, sPut 10 1),
  (false, 16, 1, sLdA 0),
  (false, 17, 1, sLdA 1),
  (false, 18, 3, sGet 10 (fun w i M => aI (M 10 w i 2))),
  (false, 21, 3, sPut 10 2),
  (false, 24, 1, sLdA 0),
  (false, 25, 1, sLdA 1),
  (false, 26, 3, sGet 10 (fun w i M => aI (M 10 w i 3))),
  (false, 29, 3, sPut 10 3),
  (false, 32, 1, sLdA 0),
  (false, 33, 1, sLdA 1),
  (false, 34, 3, sGet 10 (fun w i M => aI (M 10 w i 4))),
  (false, 37, 3, sPut 10 4),
  (false, 40, 1, sRetV)]
theorem oL_copy {E : EV} (hsd : E.2.2.2 = 0) (l : Launch) : AllOK E l 1 "FreeLances$Lance" prog_4_method_3_code 2 none outV (cL_copy) := by
  refine ak (ok_aload_n (k := 0) rfl (by decide +kernel)) ?_
  refine ak (ok_aload_n (k := 1) rfl (by decide +kernel)) ?_
  refine ak (ok_get (k := 0) ck2 kd10 (by decide) (fun _ _ _ => rfl) (fun _ _ _ _ _ => trivial) tw271 (by decide +kernel)) ?_
  refine ak (ok_put (k := 0) ck2 kd10 (by decide) (fun _ _ _ => rfl) rfl rfl (by decide) tw271 (by decide +kernel)) ?_
  refine ak (ok_aload_n (k := 0) rfl (by decide +kernel)) ?_
  refine ak (ok_aload_n (k := 1) rfl (by decide +kernel)) ?_
  refine ak (ok_get (k := 1) ck2 kd10 (by decide) (fun _ _ _ => rfl) (fun _ _ _ _ _ => trivial) tw274 (by decide +kernel)) ?_
  refine ak (ok_put (k := 1) ck2 kd10 (by decide) (fun _ _ _ => rfl) rfl rfl (by decide) tw274 (by decide +kernel)) ?_
  refine ak (ok_aload_n (k := 0) rfl (by decide +kernel)) ?_
  refine ak (ok_aload_n (k := 1) rfl (by decide +kernel)) ?_
  refine ak (ok_get (k := 2) ck2 kd10 (by decide) (fun _ _ _ => rfl) (fun _ _ _ _ _ => trivial) tw277 (by decide +kernel)) ?_
  refine ak (ok_put (k := 2) ck2 kd10 (by decide) (fun _ _ _ => rfl) rfl rfl (by decide) tw277 (by decide +kernel)) ?_
  refine ak (ok_aload_n (k := 0) rfl (by decide +kernel)) ?_
  refine ak (ok_aload_n (k := 1) rfl (by decide +kernel)) ?_
  refine ak (ok_get (k := 3) ck2 kd10 (by decide) (fun _ _ _ => rfl) (fun _ _ _ _ _ => trivial) tw280 (by decide +kernel)) ?_
  refine ak (ok_put (k := 3) ck2 kd10 (by decide) (fun _ _ _ => rfl) rfl rfl (by decide) tw280 (by decide +kernel)) ?_
  refine ak (ok_aload_n (k := 0) rfl (by decide +kernel)) ?_
  refine ak (ok_aload_n (k := 1) rfl (by decide +kernel)) ?_
  refine ak (ok_get (k := 4) ck2 kd10 (by decide) (fun _ _ _ => rfl) (fun _ _ _ _ _ => trivial) tw283 (by decide +kernel)) ?_
  refine ak (ok_put (k := 4) ck2 kd10 (by decide) (fun _ _ _ => rfl) rfl rfl (by decide) tw283 (by decide +kernel)) ?_
  refine ak (ok_return rfl (by decide +kernel)) ?_
  exact trivial
set_option maxRecDepth 1000000 in
theorem eL_copy (w0 : Nat) (i0 : Nat) (w1 : Nat) (i1 : Nat) (M : Mem) : run (cL_copy) (fun _ _ _ _ => none) rtV 400 (seek (cL_copy) 0) [aR (10, w0, i0), aR (10, w1, i1)] [] M = mL_copy w0 i0 w1 i1 M := id rfl
theorem lL_copy {E : EV} {l : Launch} {p : Program} {e : Env} {s : State} {m : MethodId} {args : Array Value} {below : List Frame} {meth : Method} {c : Code} (A : AllOK E l 1 "FreeLances$Lance" prog_4_method_3_code 2 none outV (cL_copy)) (C : Cx E p s m args meth c "FreeLances$Lance" prog_4_method_3_code 2 none) : ∀ (w0 : Nat) (i0 : Nat) (w1 : Nat) (i1 : Nat) (M : Mem) (res : Mem), mL_copy w0 i0 w1 i1 M = some res → Wm E p l e 1 s m args below meth c 2 0 [aR (10, w0, i0), aR (10, w1, i1)] [] M (outV res).1 (outV res).2 := by
  intro w0 i0 w1 i1 M res h
  refine run_at C A rfl hrtV (n := 400) ((eL_copy w0 i0 w1 i1 M).trans h) ?_
  intro t als st M hk; cases hk
def dL_copy {β : Type} : Den β := fun as M k => match as with
  | [.inr (.inr (.inl (al0, w0, i0))), .inr (.inr (.inl (al1, w1, i1)))] => if al0 = 10 ∧ al1 = 10 then (mL_copy w0 i0 w1 i1 M).bind fun q => k aU q else none
  | _ => none
theorem wL_copy {E : EV} (hsd : E.2.2.2 = 0) (l : Launch) (w0 : Nat) (i0 : Nat) (w1 : Nat) (i1 : Nat) (M : Mem) (q : Mem) (hq : mL_copy w0 i0 w1 i1 M = some q) : Con E l 1 yL_copy prog_4_method_3_code 2 none [aR (10, w0, i0), aR (10, w1, i1)] M (outV q).1 (outV q).2 := by
  refine con_of iL_copy (Nat.le_of_ble_eq_true rfl) ?_
  intro p e s m args below meth c C
  exact lL_copy (oL_copy hsd l) C w0 i0 w1 i1 M _ hq
theorem kL_copy {E : EV} (hsd : E.2.2.2 = 0) (l : Launch) {β : Type} : DenOK E l 1 yL_copy prog_4_method_3_code 2 none false (dL_copy (β := β)) := by
  intro as M k res h
  unfold dL_copy at h
  split at h
  ·
    split at h
    · rename_i hc
      obtain ⟨rfl, rfl⟩ := hc
      obtain ⟨q, hq, hk⟩ := Option.bind_eq_some_iff.mp h
      exact ⟨aU, q, hk, rfl, wL_copy hsd l _ _ _ _ M q hq⟩
    · cases h
  · cases h
theorem qL_copy {β : Type} : RecOK 10 (dL_copy (β := β)) := by
  intro as M k res h
  unfold dL_copy at h
  split at h
  ·
    split at h
    · rename_i hc
      obtain ⟨rfl, rfl⟩ := hc
      exact ⟨_, _, _, rfl⟩
    · cases h
  · cases h
/-! ===== FreeLances$Statute.copy(LFreeLances$Statute;)V ===== -/
abbrev yU_copy : MethodName := ⟨"FreeLances$Statute", "copy", "(LFreeLances$Statute;)V"⟩
theorem iU_copy : MI yU_copy prog_8_method_3_code 2 none 1 := ⟨tw1121, tw103, ⟨by decide, by decide⟩, by decide +kernel, by decide, by decide⟩
def cU_copy : List (Ent Mem) := [(false, 0, 1, sLdA 0),
  (false, 1, 1, sLdA 1),
  (false, 2, 3, sGet 12 (fun w i M => aI (M 12 w i 0))),
  (false, 5, 1, sLdA 1),
  (false, 6, 3, sGet 12 (fun w i M => aI (M 12 w i 1))),
  (false, 9, 1, sLdA 1),
  (false, 10, 3, sGet 12 (fun w i M => aR (13, w, i))),
  (false, 13, 1, sLdA 1),
  (false, 14, 3, sGet 12 (fun w i M => aI (M 12 w i 2))),
  (false, 17, 3, sInv 5 false dU_begin),
  (false, 20, 1, sRetV)]
theorem oU_copy {E : EV} (hsd : E.2.2.2 = 0) (l : Launch) : AllOK E l 2 "FreeLances$Statute" prog_8_method_3_code 2 none outV (cU_copy) := by
  refine ak (ok_aload_n (k := 0) rfl (by decide +kernel)) ?_
  refine ak (ok_aload_n (k := 1) rfl (by decide +kernel)) ?_
  refine ak (ok_get (k := 0) ck6 kd12 (by decide) (fun _ _ _ => rfl) (fun _ _ _ _ _ => trivial) tw301 (by decide +kernel)) ?_
  refine ak (ok_aload_n (k := 1) rfl (by decide +kernel)) ?_
  refine ak (ok_get (k := 1) ck6 kd12 (by decide) (fun _ _ _ => rfl) (fun _ _ _ _ _ => trivial) tw304 (by decide +kernel)) ?_
  refine ak (ok_aload_n (k := 1) rfl (by decide +kernel)) ?_
  refine ak (ok_get (k := 3) ck6 kd12 (by decide) (fun _ _ _ => rfl) (vf_12_3 hsd) tw308 (by decide +kernel)) ?_
  refine ak (ok_aload_n (k := 1) rfl (by decide +kernel)) ?_
  refine ak (ok_get (k := 2) ck6 kd12 (by decide) (fun _ _ _ => rfl) (fun _ _ _ _ _ => trivial) tw306 (by decide +kernel)) ?_
  refine ak (ok_invV (r := 12) (kU_begin hsd l) qU_begin ck6 kd12 iU_begin tw785 tw786 (by decide) tw1122 (by decide +kernel)) ?_
  refine ak (ok_return rfl (by decide +kernel)) ?_
  exact trivial
set_option maxRecDepth 1000000 in
theorem eU_copy (w0 : Nat) (i0 : Nat) (w1 : Nat) (i1 : Nat) (M : Mem) : run (cU_copy) (fun _ _ _ _ => none) rtV 400 (seek (cU_copy) 0) [aR (12, w0, i0), aR (12, w1, i1)] [] M = mU_copy w0 i0 w1 i1 M := id rfl
theorem lU_copy {E : EV} {l : Launch} {p : Program} {e : Env} {s : State} {m : MethodId} {args : Array Value} {below : List Frame} {meth : Method} {c : Code} (A : AllOK E l 2 "FreeLances$Statute" prog_8_method_3_code 2 none outV (cU_copy)) (C : Cx E p s m args meth c "FreeLances$Statute" prog_8_method_3_code 2 none) : ∀ (w0 : Nat) (i0 : Nat) (w1 : Nat) (i1 : Nat) (M : Mem) (res : Mem), mU_copy w0 i0 w1 i1 M = some res → Wm E p l e 2 s m args below meth c 2 0 [aR (12, w0, i0), aR (12, w1, i1)] [] M (outV res).1 (outV res).2 := by
  intro w0 i0 w1 i1 M res h
  refine run_at C A rfl hrtV (n := 400) ((eU_copy w0 i0 w1 i1 M).trans h) ?_
  intro t als st M hk; cases hk
def dU_copy {β : Type} : Den β := fun as M k => match as with
  | [.inr (.inr (.inl (al0, w0, i0))), .inr (.inr (.inl (al1, w1, i1)))] => if al0 = 12 ∧ al1 = 12 then (mU_copy w0 i0 w1 i1 M).bind fun q => k aU q else none
  | _ => none
theorem wU_copy {E : EV} (hsd : E.2.2.2 = 0) (l : Launch) (w0 : Nat) (i0 : Nat) (w1 : Nat) (i1 : Nat) (M : Mem) (q : Mem) (hq : mU_copy w0 i0 w1 i1 M = some q) : Con E l 2 yU_copy prog_8_method_3_code 2 none [aR (12, w0, i0), aR (12, w1, i1)] M (outV q).1 (outV q).2 := by
  refine con_of iU_copy (Nat.le_of_ble_eq_true rfl) ?_
  intro p e s m args below meth c C
  exact lU_copy (oU_copy hsd l) C w0 i0 w1 i1 M _ hq
theorem kU_copy {E : EV} (hsd : E.2.2.2 = 0) (l : Launch) {β : Type} : DenOK E l 2 yU_copy prog_8_method_3_code 2 none false (dU_copy (β := β)) := by
  intro as M k res h
  unfold dU_copy at h
  split at h
  ·
    split at h
    · rename_i hc
      obtain ⟨rfl, rfl⟩ := hc
      obtain ⟨q, hq, hk⟩ := Option.bind_eq_some_iff.mp h
      exact ⟨aU, q, hk, rfl, wU_copy hsd l _ _ _ _ M q hq⟩
    · cases h
  · cases h
theorem qU_copy {β : Type} : RecOK 12 (dU_copy (β := β)) := by
  intro as M k res h
  unfold dU_copy at h
  split at h
  ·
    split at h
    · rename_i hc
      obtain ⟨rfl, rfl⟩ := hc
      exact ⟨_, _, _, rfl⟩
    · cases h
  · cases h
