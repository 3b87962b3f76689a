/-! ===== FreeLances$World.inForce(II)I ===== -/
abbrev yW_inForce : MethodName := ⟨"FreeLances$World", "inForce", "(II)I"⟩
theorem iW_inForce : MI yW_inForce prog_11_method_15_code 4 (some .int) 2 := ⟨tw689, tw98, ⟨by decide, by decide⟩, by decide +kernel, by decide, by decide⟩
def cW_inForce : List (Ent (Int32 × Mem)) := [(false, 0, 1, sLdA 0),
  (false, 1, 3, sGet 1 (fun w i M => aI (M 1 w i 10))),
  (false, 4, 1, sC 1),
  (false, 5, 1, sBin (fun x y => x - y)),
  (false, 6, 1, sStI 3),
  (true, 7, 1, sLdI 3),
  (false, 8, 3, sIfLt 45),
  (false, 11, 1, sLdA 0),
  (false, 12, 3, sGet 1 (fun w i M => aR (11, w, 0))),
  (false, 15, 1, sLdI 3),
  (false, 16, 1, sAald 11 12 12),
  (false, 17, 3, sGet 12 (fun w i M => aI (M 12 w i 0))),
  (false, 20, 1, sLdI 1),
  (false, 21, 3, sCmpNe 39),
  (false, 24, 1, sLdA 0),
  (false, 25, 3, sGet 1 (fun w i M => aR (11, w, 0))),
  (false, 28, 1, sLdI 3),
  (false, 29, 1, sAald 11 12 12),
  (false, 30, 3, sGet 12 (fun w i M => aI (M 12 w i 1))),
  (false, 33, 1, sLdI 2),
  (false, 34, 3, sCmpGt 39),
  (false, 37, 1, sLdI 3),
  (false, 38, 1, sRetI),
  (false, 39, 3, sInc 3 (-1)),
  (false, 42, 3, sGoto 7),
  (false, 45, 1, sC (-1)),
  (false, 46, 1, sRetI)]
theorem oW_inForce {E : EV} (hsd : E.2.2.2 = 0) (l : Launch) : AllOK E l 1 "FreeLances$World" prog_11_method_15_code 4 (some .int) outI (cW_inForce) := by
  refine ak (ok_aload_n (k := 0) rfl (by decide +kernel)) ?_
  refine ak (ok_get (k := 10) ck9 kd1 (by decide) (fun _ _ _ => rfl) (fun _ _ _ _ _ => trivial) tw408 (by decide +kernel)) ?_
  refine ak (ok_iconst (n := 1) (by decide) (by decide +kernel)) ?_
  refine ak (ok_isub (by decide +kernel)) ?_
  refine ak (ok_istore_n (k := 3) rfl (by decide) (by decide +kernel)) ?_
  refine ak (ok_iload_n (k := 3) rfl (by decide +kernel)) ?_
  refine ak (ok_if_lt (off := 37) (by decide) (by decide +kernel)) ?_
  refine ak (ok_aload_n (k := 0) rfl (by decide +kernel)) ?_
  refine ak (ok_get (k := 9) ck9 kd1 (by decide) (fun _ _ _ => rfl) (vf_1_9 hsd) tw406 (by decide +kernel)) ?_
  refine ak (ok_iload_n (k := 3) rfl (by decide +kernel)) ?_
  refine ak (ok_aald (t0 := 5) (C := RX6) kd11 (by decide) rfl (vr_11 hsd) (by decide +kernel)) ?_
  refine ak (ok_get (k := 0) ck6 kd12 (by decide) (fun _ _ _ => rfl) (fun _ _ _ _ _ => trivial) tw303 (by decide +kernel)) ?_
  refine ak (ok_iload_n (k := 1) rfl (by decide +kernel)) ?_
  refine ak (ok_icmp_ne (off := 18) (by decide) (by decide +kernel)) ?_
  refine ak (ok_aload_n (k := 0) rfl (by decide +kernel)) ?_
  refine ak (ok_get (k := 9) ck9 kd1 (by decide) (fun _ _ _ => rfl) (vf_1_9 hsd) tw406 (by decide +kernel)) ?_
  refine ak (ok_iload_n (k := 3) rfl (by decide +kernel)) ?_
  refine ak (ok_aald (t0 := 5) (C := RX6) kd11 (by decide) rfl (vr_11 hsd) (by decide +kernel)) ?_
  refine ak (ok_get (k := 1) ck6 kd12 (by decide) (fun _ _ _ => rfl) (fun _ _ _ _ _ => trivial) tw305 (by decide +kernel)) ?_
  refine ak (ok_iload_n (k := 2) rfl (by decide +kernel)) ?_
  refine ak (ok_icmp_gt (off := 5) (by decide) (by decide +kernel)) ?_
  refine ak (ok_iload_n (k := 3) rfl (by decide +kernel)) ?_
  refine ak (ok_ireturn rfl (by decide +kernel)) ?_
  refine ak (ok_iinc (n := (-1)) (by decide) (by decide) (by decide +kernel)) ?_
  refine ak (ok_goto (off := (-35)) (by decide) (by decide +kernel)) ?_
  refine ak (ok_iconst (n := (-1)) (by decide) (by decide +kernel)) ?_
  refine ak (ok_ireturn rfl (by decide +kernel)) ?_
  exact trivial
def KW_inForce_7 (j7 : Nat → Int32 → Int32 → Int32 → Mem → Option (Int32 × Mem)) : Jm (Int32 × Mem) := fun t als st M =>
  if t = 7 then (match als, st with
  | [.inr (.inr (.inl (al0, w0, cl0))), .inl x1, .inl x2, .inl x3], [] => if al0 = 1 ∧ cl0 = 0 then j7 w0 x1 x2 x3 M else none
  | _, _ => none) else
  none
set_option maxRecDepth 1000000 in
theorem eW_inForce_7 (j7 : Nat → Int32 → Int32 → Int32 → Mem → Option (Int32 × Mem)) (w0 : Nat) (x1 : Int32) (x2 : Int32) (x3 : Int32) (M : Mem) : run (cW_inForce) (KW_inForce_7 j7) rtI 400 (seek (cW_inForce) 7) [aR (1, w0, 0), aI x1, aI x2, aI x3] [] M = mW_inForce_7b j7 w0 x1 x2 x3 M := id rfl
theorem lW_inForce_7 {E : EV} {l : Launch} {p : Program} {e : Env} {s : State} {m : MethodId} {args : Array Value} {below : List Frame} {meth : Method} {c : Code} (A : AllOK E l 1 "FreeLances$World" prog_11_method_15_code 4 (some .int) outI (cW_inForce)) (C : Cx E p s m args meth c "FreeLances$World" prog_11_method_15_code 4 (some .int)) : ∀ (n : Nat), ∀ (w0 : Nat) (x1 : Int32) (x2 : Int32) (x3 : Int32) (M : Mem) (res : (Int32 × Mem)), mW_inForce_7 n w0 x1 x2 x3 M = some res → Wm E p l e 1 s m args below meth c 4 7 [aR (1, w0, 0), aI x1, aI x2, aI x3] [] M (outI res).1 (outI res).2 := by
  intro n
  induction n with
  | zero => intro _ _ _ _ M res h; cases h
  | succ n ih =>
    intro w0 x1 x2 x3 M res h
    refine run_at C A rfl hrtI (n := 400) ((eW_inForce_7 (mW_inForce_7 n) w0 x1 x2 x3 M).trans h) ?_
    intro t als st M hk
    unfold KW_inForce_7 at hk
    split at hk
    · rename_i ht
      subst ht
      split at hk
      · split at hk
        · rename_i hc
          obtain ⟨rfl, rfl⟩ := hc
          exact ih _ _ _ _ _ _ hk
        · cases hk
      · cases hk
    cases hk
def KW_inForce (j7 : Nat → Int32 → Int32 → Int32 → Mem → Option (Int32 × Mem)) : Jm (Int32 × Mem) := fun t als st M =>
  if t = 7 then (match als, st with
  | [.inr (.inr (.inl (al0, w0, cl0))), .inl x1, .inl x2, .inl x3], [] => if al0 = 1 ∧ cl0 = 0 then j7 w0 x1 x2 x3 M else none
  | _, _ => none) else
  none
set_option maxRecDepth 1000000 in
theorem eW_inForce (j7 : Nat → Int32 → Int32 → Int32 → Mem → Option (Int32 × Mem)) (w0 : Nat) (x1 : Int32) (x2 : Int32) (M : Mem) : run (cW_inForce) (KW_inForce j7) rtI 400 (seek (cW_inForce) 0) [aR (1, w0, 0), aI x1, aI x2, aU] [] M = mW_inForceb j7 w0 x1 x2 M := id rfl
theorem lW_inForce {E : EV} {l : Launch} {p : Program} {e : Env} {s : State} {m : MethodId} {args : Array Value} {below : List Frame} {meth : Method} {c : Code} (A : AllOK E l 1 "FreeLances$World" prog_11_method_15_code 4 (some .int) outI (cW_inForce)) (C : Cx E p s m args meth c "FreeLances$World" prog_11_method_15_code 4 (some .int)) : ∀ (w0 : Nat) (x1 : Int32) (x2 : Int32) (M : Mem) (res : (Int32 × Mem)), mW_inForce w0 x1 x2 M = some res → Wm E p l e 1 s m args below meth c 4 0 [aR (1, w0, 0), aI x1, aI x2, aU] [] M (outI res).1 (outI res).2 := by
  intro w0 x1 x2 M res h
  refine run_at C A rfl hrtI (n := 400) ((eW_inForce (mW_inForce_7 fuel) w0 x1 x2 M).trans h) ?_
  intro t als st M hk
  unfold KW_inForce at hk
  split at hk
  · rename_i ht
    subst ht
    split at hk
    · split at hk
      · rename_i hc
        obtain ⟨rfl, rfl⟩ := hc
        exact lW_inForce_7 A C _ _ _ _ _ _ _ hk
      · cases hk
    · cases hk
  cases hk
def dW_inForce {β : Type} : Den β := fun as M k => match as with
  | [.inr (.inr (.inl (al0, w0, cl0))), .inl x1, .inl x2] => if al0 = 1 ∧ cl0 = 0 then (mW_inForce w0 x1 x2 M).bind fun q => k (aI q.1) q.2 else none
  | _ => none
theorem wW_inForce {E : EV} (hsd : E.2.2.2 = 0) (l : Launch) (w0 : Nat) (x1 : Int32) (x2 : Int32) (M : Mem) (q : (Int32 × Mem)) (hq : mW_inForce w0 x1 x2 M = some q) : Con E l 1 yW_inForce prog_11_method_15_code 4 (some .int) [aR (1, w0, 0), aI x1, aI x2] M (outI q).1 (outI q).2 := by
  refine con_of iW_inForce (Nat.le_of_ble_eq_true rfl) ?_
  intro p e s m args below meth c C
  exact lW_inForce (oW_inForce hsd l) C w0 x1 x2 M _ hq
theorem kW_inForce {E : EV} (hsd : E.2.2.2 = 0) (l : Launch) {β : Type} : DenOK E l 1 yW_inForce prog_11_method_15_code 4 (some .int) true (dW_inForce (β := β)) := by
  intro as M k res h
  unfold dW_inForce at h
  split at h
  ·
    split at h
    · rename_i hc
      obtain ⟨rfl, rfl⟩ := hc
      obtain ⟨q, hq, hk⟩ := Option.bind_eq_some_iff.mp h
      exact ⟨aI q.1, q.2, hk, rfl, wW_inForce hsd l _ _ _ M q hq⟩
    · cases h
  · cases h
theorem qW_inForce {β : Type} : RecOK 1 (dW_inForce (β := β)) := by
  intro as M k res h
  unfold dW_inForce at h
  split at h
  ·
    split at h
    · rename_i hc
      obtain ⟨rfl, rfl⟩ := hc
      exact ⟨_, _, _, rfl⟩
    · cases h
  · cases h
/-! ===== FreeLances$Reader.begin([BII)V ===== -/
abbrev yR_begin : MethodName := ⟨"FreeLances$Reader", "begin", "([BII)V"⟩
theorem iR_begin : MI yR_begin prog_6_method_4_code 4 none 3 := ⟨tw697, tw99, ⟨by decide, by decide⟩, by decide +kernel, by decide, by decide⟩
def cR_begin : List (Ent Mem) := [(false, 0, 1, sLdA 0),
  (false, 1, 1, sLdA 1),
  (false, 2, 3, sPutT),
  (false, 5, 1, sLdA 0),
  (false, 6, 1, sLdI 2),
  (false, 7, 1, sLdA 1),
  (false, 8, 1, sBlen),
  (false, 9, 3, sMin),
  (false, 12, 3, sPut 17 1),
  (false, 15, 1, sLdA 0),
  (false, 16, 1, sLdI 3),
  (false, 17, 3, sPut 17 2),
  (false, 20, 1, sLdA 0),
  (false, 21, 1, sC 0),
  (false, 22, 3, sPut 17 6),
  (false, 25, 1, sLdA 0),
  (false, 26, 1, sC (-1)),
  (false, 27, 3, sPut 17 7),
  (false, 30, 1, sRetV)]
theorem oR_begin {E : EV} (hsd : E.2.2.2 = 0) (l : Launch) : AllOK E l 1 "FreeLances$Reader" prog_6_method_4_code 4 none outV (cR_begin) := by
  refine ak (ok_aload_n (k := 0) rfl (by decide +kernel)) ?_
  refine ak (ok_aload_n (k := 1) rfl (by decide +kernel)) ?_
  refine ak (ok_putT ck4 hsd tw142 (by decide +kernel)) ?_
  refine ak (ok_aload_n (k := 0) rfl (by decide +kernel)) ?_
  refine ak (ok_iload_n (k := 2) rfl (by decide +kernel)) ?_
  refine ak (ok_aload_n (k := 1) rfl (by decide +kernel)) ?_
  refine ak (ok_blen (by decide +kernel)) ?_
  refine ak (ok_mmin (by decide) tw698 tw581 tw109 twMmin (by decide +kernel)) ?_
  refine ak (ok_put (k := 1) ck4 kd17 (by decide) (fun _ _ _ => rfl) rfl rfl (by decide) tw143 (by decide +kernel)) ?_
  refine ak (ok_aload_n (k := 0) rfl (by decide +kernel)) ?_
  refine ak (ok_iload_n (k := 3) rfl (by decide +kernel)) ?_
  refine ak (ok_put (k := 2) ck4 kd17 (by decide) (fun _ _ _ => rfl) rfl rfl (by decide) tw144 (by decide +kernel)) ?_
  refine ak (ok_aload_n (k := 0) rfl (by decide +kernel)) ?_
  refine ak (ok_iconst (n := 0) (by decide) (by decide +kernel)) ?_
  refine ak (ok_put (k := 6) ck4 kd17 (by decide) (fun _ _ _ => rfl) rfl rfl (by decide) tw148 (by decide +kernel)) ?_
  refine ak (ok_aload_n (k := 0) rfl (by decide +kernel)) ?_
  refine ak (ok_iconst (n := (-1)) (by decide) (by decide +kernel)) ?_
  refine ak (ok_put (k := 7) ck4 kd17 (by decide) (fun _ _ _ => rfl) rfl rfl (by decide) tw149 (by decide +kernel)) ?_
  refine ak (ok_return rfl (by decide +kernel)) ?_
  exact trivial
set_option maxRecDepth 1000000 in
theorem eR_begin (w0 : Nat) (w1 : Nat) (i1 : Nat) (x2 : Int32) (x3 : Int32) (M : Mem) : run (cR_begin) (fun _ _ _ _ => none) rtV 400 (seek (cR_begin) 0) [aR (17, w0, 0), aR (13, w1, i1), aI x2, aI x3] [] M = mR_begin w0 w1 i1 x2 x3 M := id rfl
theorem lR_begin {E : EV} {l : Launch} {p : Program} {e : Env} {s : State} {m : MethodId} {args : Array Value} {below : List Frame} {meth : Method} {c : Code} (A : AllOK E l 1 "FreeLances$Reader" prog_6_method_4_code 4 none outV (cR_begin)) (C : Cx E p s m args meth c "FreeLances$Reader" prog_6_method_4_code 4 none) : ∀ (w0 : Nat) (w1 : Nat) (i1 : Nat) (x2 : Int32) (x3 : Int32) (M : Mem) (res : Mem), mR_begin w0 w1 i1 x2 x3 M = some res → Wm E p l e 1 s m args below meth c 4 0 [aR (17, w0, 0), aR (13, w1, i1), aI x2, aI x3] [] M (outV res).1 (outV res).2 := by
  intro w0 w1 i1 x2 x3 M res h
  refine run_at C A rfl hrtV (n := 400) ((eR_begin w0 w1 i1 x2 x3 M).trans h) ?_
  intro t als st M hk; cases hk
def dR_begin {β : Type} : Den β := fun as M k => match as with
  | [.inr (.inr (.inl (al0, w0, cl0))), .inr (.inr (.inl (al1, w1, i1))), .inl x2, .inl x3] => if al0 = 17 ∧ cl0 = 0 ∧ al1 = 13 then (mR_begin w0 w1 i1 x2 x3 M).bind fun q => k aU q else none
  | _ => none
theorem wR_begin {E : EV} (hsd : E.2.2.2 = 0) (l : Launch) (w0 : Nat) (w1 : Nat) (i1 : Nat) (x2 : Int32) (x3 : Int32) (M : Mem) (q : Mem) (hq : mR_begin w0 w1 i1 x2 x3 M = some q) : Con E l 1 yR_begin prog_6_method_4_code 4 none [aR (17, w0, 0), aR (13, w1, i1), aI x2, aI x3] M (outV q).1 (outV q).2 := by
  refine con_of iR_begin (Nat.le_of_ble_eq_true rfl) ?_
  intro p e s m args below meth c C
  exact lR_begin (oR_begin hsd l) C w0 w1 i1 x2 x3 M _ hq
theorem kR_begin {E : EV} (hsd : E.2.2.2 = 0) (l : Launch) {β : Type} : DenOK E l 1 yR_begin prog_6_method_4_code 4 none false (dR_begin (β := β)) := by
  intro as M k res h
  unfold dR_begin at h
  split at h
  ·
    split at h
    · rename_i hc
      obtain ⟨rfl, rfl, rfl⟩ := hc
      obtain ⟨q, hq, hk⟩ := Option.bind_eq_some_iff.mp h
      exact ⟨aU, q, hk, rfl, wR_begin hsd l _ _ _ _ _ M q hq⟩
    · cases h
  · cases h
theorem qR_begin {β : Type} : RecOK 17 (dR_begin (β := β)) := by
  intro as M k res h
  unfold dR_begin at h
  split at h
  ·
    split at h
    · rename_i hc
      obtain ⟨rfl, rfl, rfl⟩ := hc
      exact ⟨_, _, _, rfl⟩
    · cases h
  · cases h
/-! ===== FreeLances$Reader.sign()I ===== -/
abbrev yR_sign : MethodName := ⟨"FreeLances$Reader", "sign", "()I"⟩
theorem iR_sign : MI yR_sign prog_6_method_5_code 1 (some .int) 0 := ⟨tw726, tw99, ⟨by decide, by decide⟩, by decide +kernel, by decide, by decide⟩
def cR_sign : List (Ent (Int32 × Mem)) := [(false, 0, 1, sLdA 0),
  (false, 1, 3, sGet 17 (fun w i M => aI (M 17 w i 6))),
  (false, 4, 1, sLdA 0),
  (false, 5, 3, sGet 17 (fun w i M => aI (M 17 w i 1))),
  (false, 8, 3, sCmpGe 27),
  (false, 11, 1, sLdA 0),
  (false, 12, 3, sGet 17 (fun w i M => aR (13, w, (M 17 w i 0).toNatClampNeg))),
  (false, 15, 1, sLdA 0),
  (false, 16, 3, sGet 17 (fun w i M => aI (M 17 w i 6))),
  (false, 19, 1, sBald),
  (false, 20, 3, sC 255),
  (false, 23, 1, sBin (fun x y => x &&& y)),
  (false, 24, 3, sGoto 28),
  (false, 27, 1, sC (-1)),
  (false, 28, 1, sRetI)]
theorem oR_sign {E : EV} (hsd : E.2.2.2 = 0) (l : Launch) : AllOK E l 1 "FreeLances$Reader" prog_6_method_5_code 1 (some .int) outI (cR_sign) := by
  refine ak (ok_aload_n (k := 0) rfl (by decide +kernel)) ?_
  refine ak (ok_get (k := 6) ck4 kd17 (by decide) (fun _ _ _ => rfl) (fun _ _ _ _ _ => trivial) tw148 (by decide +kernel)) ?_
  refine ak (ok_aload_n (k := 0) rfl (by decide +kernel)) ?_
  refine ak (ok_get (k := 1) ck4 kd17 (by decide) (fun _ _ _ => rfl) (fun _ _ _ _ _ => trivial) tw143 (by decide +kernel)) ?_
  refine ak (ok_icmp_ge (off := 19) (by decide) (by decide +kernel)) ?_
  refine ak (ok_aload_n (k := 0) rfl (by decide +kernel)) ?_
  refine ak (ok_get (k := 0) ck4 kd17 (by decide) (fun _ _ _ => rfl) (vf_17_0 hsd) tw142 (by decide +kernel)) ?_
  refine ak (ok_aload_n (k := 0) rfl (by decide +kernel)) ?_
  refine ak (ok_get (k := 6) ck4 kd17 (by decide) (fun _ _ _ => rfl) (fun _ _ _ _ _ => trivial) tw148 (by decide +kernel)) ?_
  refine ak (ok_bald (by decide +kernel)) ?_
  refine ak (ok_sipush (n := 255) (by decide) (by decide +kernel)) ?_
  refine ak (ok_iand (by decide +kernel)) ?_
  refine ak (ok_goto (off := 4) (by decide) (by decide +kernel)) ?_
  refine ak (ok_iconst (n := (-1)) (by decide) (by decide +kernel)) ?_
  refine ak (ok_ireturn rfl (by decide +kernel)) ?_
  exact trivial
set_option maxRecDepth 1000000 in
theorem eR_sign (w0 : Nat) (M : Mem) : run (cR_sign) (fun _ _ _ _ => none) rtI 400 (seek (cR_sign) 0) [aR (17, w0, 0)] [] M = mR_sign w0 M := id rfl
theorem lR_sign {E : EV} {l : Launch} {p : Program} {e : Env} {s : State} {m : MethodId} {args : Array Value} {below : List Frame} {meth : Method} {c : Code} (A : AllOK E l 1 "FreeLances$Reader" prog_6_method_5_code 1 (some .int) outI (cR_sign)) (C : Cx E p s m args meth c "FreeLances$Reader" prog_6_method_5_code 1 (some .int)) : ∀ (w0 : Nat) (M : Mem) (res : (Int32 × Mem)), mR_sign w0 M = some res → Wm E p l e 1 s m args below meth c 1 0 [aR (17, w0, 0)] [] M (outI res).1 (outI res).2 := by
  intro w0 M res h
  refine run_at C A rfl hrtI (n := 400) ((eR_sign w0 M).trans h) ?_
  intro t als st M hk; cases hk
def dR_sign {β : Type} : Den β := fun as M k => match as with
  | [.inr (.inr (.inl (al0, w0, cl0)))] => if al0 = 17 ∧ cl0 = 0 then (mR_sign w0 M).bind fun q => k (aI q.1) q.2 else none
  | _ => none
theorem wR_sign {E : EV} (hsd : E.2.2.2 = 0) (l : Launch) (w0 : Nat) (M : Mem) (q : (Int32 × Mem)) (hq : mR_sign w0 M = some q) : Con E l 1 yR_sign prog_6_method_5_code 1 (some .int) [aR (17, w0, 0)] M (outI q).1 (outI q).2 := by
  refine con_of iR_sign (Nat.le_of_ble_eq_true rfl) ?_
  intro p e s m args below meth c C
  exact lR_sign (oR_sign hsd l) C w0 M _ hq
theorem kR_sign {E : EV} (hsd : E.2.2.2 = 0) (l : Launch) {β : Type} : DenOK E l 1 yR_sign prog_6_method_5_code 1 (some .int) true (dR_sign (β := β)) := by
  intro as M k res h
  unfold dR_sign at h
  split at h
  ·
    split at h
    · rename_i hc
      obtain ⟨rfl, rfl⟩ := hc
      obtain ⟨q, hq, hk⟩ := Option.bind_eq_some_iff.mp h
      exact ⟨aI q.1, q.2, hk, rfl, wR_sign hsd l _ M q hq⟩
    · cases h
  · cases h
theorem qR_sign {β : Type} : RecOK 17 (dR_sign (β := β)) := by
  intro as M k res h
  unfold dR_sign at h
  split at h
  ·
    split at h
    · rename_i hc
      obtain ⟨rfl, rfl⟩ := hc
      exact ⟨_, _, _, rfl⟩
    · cases h
  · cases h
/-! ===== FreeLances$Reader.goesOnWith(II)Z ===== -/
abbrev yR_goesOnWith : MethodName := ⟨"FreeLances$Reader", "goesOnWith", "(II)Z"⟩
theorem iR_goesOnWith : MI yR_goesOnWith prog_6_method_6_code 4 (some .boolean) 2 := ⟨tw742, tw99, ⟨by decide, by decide⟩, by decide +kernel, by decide, by decide⟩
def cR_goesOnWith : List (Ent (Int32 × Mem)) := [(false, 0, 1, sLdA 0),
  (false, 1, 3, sInv 1 true dR_sign),
  (false, 4, 1, sStI 3),
  (false, 5, 1, sLdA 0),
  (false, 6, 3, sGet 17 (fun w i M => aI (M 17 w i 7))),
  (false, 9, 3, sIfGe 26),
  (false, 12, 1, sLdI 3),
  (false, 13, 1, sLdI 1),
  (false, 14, 3, sCmpEq 22),
  (false, 17, 1, sLdI 3),
  (false, 18, 1, sLdI 2),
  (false, 19, 3, sCmpNe 26),
  (false, 22, 1, sC 1),
  (false, 23, 3, sGoto 27),
  (false, 26, 1, sC 0),
  (false, 27, 1, sRetZ)]
theorem oR_goesOnWith {E : EV} (hsd : E.2.2.2 = 0) (l : Launch) : AllOK E l 2 "FreeLances$Reader" prog_6_method_6_code 4 (some .boolean) outI (cR_goesOnWith) := by
  refine ak (ok_aload_n (k := 0) rfl (by decide +kernel)) ?_
  refine ak (ok_invV (r := 17) (kR_sign hsd l) qR_sign ck4 kd17 iR_sign tw725 tw12 (by decide) tw723 (by decide +kernel)) ?_
  refine ak (ok_istore_n (k := 3) rfl (by decide) (by decide +kernel)) ?_
  refine ak (ok_aload_n (k := 0) rfl (by decide +kernel)) ?_
  refine ak (ok_get (k := 7) ck4 kd17 (by decide) (fun _ _ _ => rfl) (fun _ _ _ _ _ => trivial) tw149 (by decide +kernel)) ?_
  refine ak (ok_if_ge (off := 17) (by decide) (by decide +kernel)) ?_
  refine ak (ok_iload_n (k := 3) rfl (by decide +kernel)) ?_
  refine ak (ok_iload_n (k := 1) rfl (by decide +kernel)) ?_
  refine ak (ok_icmp_eq (off := 8) (by decide) (by decide +kernel)) ?_
  refine ak (ok_iload_n (k := 3) rfl (by decide +kernel)) ?_
  refine ak (ok_iload_n (k := 2) rfl (by decide +kernel)) ?_
  refine ak (ok_icmp_ne (off := 7) (by decide) (by decide +kernel)) ?_
  refine ak (ok_iconst (n := 1) (by decide) (by decide +kernel)) ?_
  refine ak (ok_goto (off := 4) (by decide) (by decide +kernel)) ?_
  refine ak (ok_iconst (n := 0) (by decide) (by decide +kernel)) ?_
  refine ak (ok_zreturn rfl (by decide +kernel)) ?_
  exact trivial
set_option maxRecDepth 1000000 in
theorem eR_goesOnWith (w0 : Nat) (x1 : Int32) (x2 : Int32) (M : Mem) : run (cR_goesOnWith) (fun _ _ _ _ => none) rtI 400 (seek (cR_goesOnWith) 0) [aR (17, w0, 0), aI x1, aI x2, aU] [] M = mR_goesOnWith w0 x1 x2 M := id rfl
theorem lR_goesOnWith {E : EV} {l : Launch} {p : Program} {e : Env} {s : State} {m : MethodId} {args : Array Value} {below : List Frame} {meth : Method} {c : Code} (A : AllOK E l 2 "FreeLances$Reader" prog_6_method_6_code 4 (some .boolean) outI (cR_goesOnWith)) (C : Cx E p s m args meth c "FreeLances$Reader" prog_6_method_6_code 4 (some .boolean)) : ∀ (w0 : Nat) (x1 : Int32) (x2 : Int32) (M : Mem) (res : (Int32 × Mem)), mR_goesOnWith w0 x1 x2 M = some res → Wm E p l e 2 s m args below meth c 4 0 [aR (17, w0, 0), aI x1, aI x2, aU] [] M (outI res).1 (outI res).2 := by
  intro w0 x1 x2 M res h
  refine run_at C A rfl hrtI (n := 400) ((eR_goesOnWith w0 x1 x2 M).trans h) ?_
  intro t als st M hk; cases hk
def dR_goesOnWith {β : Type} : Den β := fun as M k => match as with
  | [.inr (.inr (.inl (al0, w0, cl0))), .inl x1, .inl x2] => if al0 = 17 ∧ cl0 = 0 then (mR_goesOnWith w0 x1 x2 M).bind fun q => k (aI q.1) q.2 else none
  | _ => none
theorem wR_goesOnWith {E : EV} (hsd : E.2.2.2 = 0) (l : Launch) (w0 : Nat) (x1 : Int32) (x2 : Int32) (M : Mem) (q : (Int32 × Mem)) (hq : mR_goesOnWith w0 x1 x2 M = some q) : Con E l 2 yR_goesOnWith prog_6_method_6_code 4 (some .boolean) [aR (17, w0, 0), aI x1, aI x2] M (outI q).1 (outI q).2 := by
  refine con_of iR_goesOnWith (Nat.le_of_ble_eq_true rfl) ?_
  intro p e s m args below meth c C
  exact lR_goesOnWith (oR_goesOnWith hsd l) C w0 x1 x2 M _ hq
theorem kR_goesOnWith {E : EV} (hsd : E.2.2.2 = 0) (l : Launch) {β : Type} : DenOK E l 2 yR_goesOnWith prog_6_method_6_code 4 (some .boolean) true (dR_goesOnWith (β := β)) := by
  intro as M k res h
  unfold dR_goesOnWith at h
  split at h
  ·
    split at h
    · rename_i hc
      obtain ⟨rfl, rfl⟩ := hc
      obtain ⟨q, hq, hk⟩ := Option.bind_eq_some_iff.mp h
      exact ⟨aI q.1, q.2, hk, rfl, wR_goesOnWith hsd l _ _ _ M q hq⟩
    · cases h
  · cases h
theorem qR_goesOnWith {β : Type} : RecOK 17 (dR_goesOnWith (β := β)) := by
  intro as M k res h
  unfold dR_goesOnWith at h
  split at h
  ·
    split at h
    · rename_i hc
      obtain ⟨rfl, rfl⟩ := hc
      exact ⟨_, _, _, rfl⟩
    · cases h
  · cases h
/-! ===== FreeLances$Reader.number()I ===== -/
abbrev yR_number : MethodName := ⟨"FreeLances$Reader", "number", "()I"⟩
theorem iR_number : MI yR_number prog_6_method_14_code 3 (some .int) 0 := ⟨tw730, tw99, ⟨by decide, by decide⟩, by decide +kernel, by decide, by decide⟩
def cR_number : List (Ent (Int32 × Mem)) := [(false, 0, 1, sC 0),
  (false, 1, 1, sStI 1),
  (false, 2, 1, sC 0),
  (false, 3, 1, sStI 2),
  (true, 4, 1, sLdI 2),
  (false, 5, 1, sC 4),
  (false, 6, 3, sCmpGe 56),
  (false, 9, 1, sLdA 0),
  (false, 10, 3, sInv 1 true dR_sign),
  (false, 13, 2, sC 48),
  (false, 15, 3, sCmpLt 56),
  (false, 18, 1, sLdA 0),
  (false, 19, 3, sInv 1 true dR_sign),
  (false, 22, 2, sC 57),
  (false, 24, 3, sCmpGt 56),
  (false, 27, 1, sLdI 1),
  (false, 28, 2, sC 10),
  (false, 30, 1, sBin (fun x y => x * y)),
  (false, 31, 1, sLdA 0),
  (false, 32, 3, sInv 1 true dR_sign),
  (false, 35, 1, sBin (fun x y => x + y)),
  (false, 36, 2, sC 48),
  (false, 38, 1, sBin (fun x y => x - y)),
  (false, 39, 1, sStI 1),
  (false, 40, 1, sLdA 0),
  (false, 41, 1, sDup),
  (false, 42, 3, sGet 17 (fun w i M => aI (M 17 w i 6))),
  (false, 45, 1, sC 1),
  (false, 46, 1, sBin (fun x y => x + y)),
  (false, 47, 3, sPut 17 6),
  (false, 50, 3, sInc 2 1),
  (false, 53, 3, sGoto 4),
  (false, 56, 1, sLdI 1),
  (false, 57, 1, sRetI)]
theorem oR_number {E : EV} (hsd : E.2.2.2 = 0) (l : Launch) : AllOK E l 2 "FreeLances$Reader" prog_6_method_14_code 3 (some .int) outI (cR_number) := by
  refine ak (ok_iconst (n := 0) (by decide) (by decide +kernel)) ?_
  refine ak (ok_istore_n (k := 1) rfl (by decide) (by decide +kernel)) ?_
  refine ak (ok_iconst (n := 0) (by decide) (by decide +kernel)) ?_
  refine ak (ok_istore_n (k := 2) rfl (by decide) (by decide +kernel)) ?_
  refine ak (ok_iload_n (k := 2) rfl (by decide +kernel)) ?_
  refine ak (ok_iconst (n := 4) (by decide) (by decide +kernel)) ?_
  refine ak (ok_icmp_ge (off := 50) (by decide) (by decide +kernel)) ?_
  refine ak (ok_aload_n (k := 0) rfl (by decide +kernel)) ?_
  refine ak (ok_invV (r := 17) (kR_sign hsd l) qR_sign ck4 kd17 iR_sign tw725 tw12 (by decide) tw723 (by decide +kernel)) ?_
  refine ak (ok_bipush (n := 48) (by decide) (by decide +kernel)) ?_
  refine ak (ok_icmp_lt (off := 41) (by decide) (by decide +kernel)) ?_
  refine ak (ok_aload_n (k := 0) rfl (by decide +kernel)) ?_
  refine ak (ok_invV (r := 17) (kR_sign hsd l) qR_sign ck4 kd17 iR_sign tw725 tw12 (by decide) tw723 (by decide +kernel)) ?_
  refine ak (ok_bipush (n := 57) (by decide) (by decide +kernel)) ?_
  refine ak (ok_icmp_gt (off := 32) (by decide) (by decide +kernel)) ?_
  refine ak (ok_iload_n (k := 1) rfl (by decide +kernel)) ?_
  refine ak (ok_bipush (n := 10) (by decide) (by decide +kernel)) ?_
  refine ak (ok_imul (by decide +kernel)) ?_
  refine ak (ok_aload_n (k := 0) rfl (by decide +kernel)) ?_
  refine ak (ok_invV (r := 17) (kR_sign hsd l) qR_sign ck4 kd17 iR_sign tw725 tw12 (by decide) tw723 (by decide +kernel)) ?_
  refine ak (ok_iadd (by decide +kernel)) ?_
  refine ak (ok_bipush (n := 48) (by decide) (by decide +kernel)) ?_
  refine ak (ok_isub (by decide +kernel)) ?_
  refine ak (ok_istore_n (k := 1) rfl (by decide) (by decide +kernel)) ?_
  refine ak (ok_aload_n (k := 0) rfl (by decide +kernel)) ?_
  refine ak (ok_dup (by decide +kernel)) ?_
  refine ak (ok_get (k := 6) ck4 kd17 (by decide) (fun _ _ _ => rfl) (fun _ _ _ _ _ => trivial) tw148 (by decide +kernel)) ?_
  refine ak (ok_iconst (n := 1) (by decide) (by decide +kernel)) ?_
  refine ak (ok_iadd (by decide +kernel)) ?_
  refine ak (ok_put (k := 6) ck4 kd17 (by decide) (fun _ _ _ => rfl) rfl rfl (by decide) tw148 (by decide +kernel)) ?_
  refine ak (ok_iinc (n := 1) (by decide) (by decide) (by decide +kernel)) ?_
  refine ak (ok_goto (off := (-49)) (by decide) (by decide +kernel)) ?_
  refine ak (ok_iload_n (k := 1) rfl (by decide +kernel)) ?_
  refine ak (ok_ireturn rfl (by decide +kernel)) ?_
  exact trivial
def KR_number_4 (j4 : Nat → Int32 → Int32 → Mem → Option (Int32 × Mem)) : Jm (Int32 × Mem) := fun t als st M =>
  if t = 4 then (match als, st with
  | [.inr (.inr (.inl (al0, w0, cl0))), .inl x1, .inl x2], [] => if al0 = 17 ∧ cl0 = 0 then j4 w0 x1 x2 M else none
  | _, _ => none) else
  none
set_option maxRecDepth 1000000 in
theorem eR_number_4 (j4 : Nat → Int32 → Int32 → Mem → Option (Int32 × Mem)) (w0 : Nat) (x1 : Int32) (x2 : Int32) (M : Mem) : run (cR_number) (KR_number_4 j4) rtI 400 (seek (cR_number) 4) [aR (17, w0, 0), aI x1, aI x2] [] M = mR_number_4b j4 w0 x1 x2 M := id rfl
theorem lR_number_4 {E : EV} {l : Launch} {p : Program} {e : Env} {s : State} {m : MethodId} {args : Array Value} {below : List Frame} {meth : Method} {c : Code} (A : AllOK E l 2 "FreeLances$Reader" prog_6_method_14_code 3 (some .int) outI (cR_number)) (C : Cx E p s m args meth c "FreeLances$Reader" prog_6_method_14_code 3 (some .int)) : ∀ (n : Nat), ∀ (w0 : Nat) (x1 : Int32) (x2 : Int32) (M : Mem) (res : (Int32 × Mem)), mR_number_4 n w0 x1 x2 M = some res → Wm E p l e 2 s m args below meth c 3 4 [aR (17, w0, 0), aI x1, aI x2] [] M (outI res).1 (outI res).2 := by
  intro n
  induction n with
  | zero => intro _ _ _ M res h; cases h
  | succ n ih =>
    intro w0 x1 x2 M res h
    refine run_at C A rfl hrtI (n := 400) ((eR_number_4 (mR_number_4 n) w0 x1 x2 M).trans h) ?_
    intro t als st M hk
    unfold KR_number_4 at hk
    split at hk
    · rename_i ht
      subst ht
      split at hk
      · split at hk
        · rename_i hc
          obtain ⟨rfl, rfl⟩ := hc
          exact ih _ _ _ _ _ hk
        · cases hk
      · cases hk
    cases hk
def KR_number (j4 : Nat → Int32 → Int32 → Mem → Option (Int32 × Mem)) : Jm (Int32 × Mem) := fun t als st M =>
  if t = 4 then (match als, st with
  | [.inr (.inr (.inl (al0, w0, cl0))), .inl x1, .inl x2], [] => if al0 = 17 ∧ cl0 = 0 then j4 w0 x1 x2 M else none
  | _, _ => none) else
  none
set_option maxRecDepth 1000000 in
theorem eR_number (j4 : Nat → Int32 → Int32 → Mem → Option (Int32 × Mem)) (w0 : Nat) (M : Mem) : run (cR_number) (KR_number j4) rtI 400 (seek (cR_number) 0) [aR (17, w0, 0), aU, aU] [] M = mR_numberb j4 w0 M := id rfl
theorem lR_number {E : EV} {l : Launch} {p : Program} {e : Env} {s : State} {m : MethodId} {args : Array Value} {below : List Frame} {meth : Method} {c : Code} (A : AllOK E l 2 "FreeLances$Reader" prog_6_method_14_code 3 (some .int) outI (cR_number)) (C : Cx E p s m args meth c "FreeLances$Reader" prog_6_method_14_code 3 (some .int)) : ∀ (w0 : Nat) (M : Mem) (res : (Int32 × Mem)), mR_number w0 M = some res → Wm E p l e 2 s m args below meth c 3 0 [aR (17, w0, 0), aU, aU] [] M (outI res).1 (outI res).2 := by
  intro w0 M res h
  refine run_at C A rfl hrtI (n := 400) ((eR_number (mR_number_4 fuel) w0 M).trans h) ?_
  intro t als st M hk
  unfold KR_number at hk
  split at hk
  · rename_i ht
    subst ht
    split at hk
    · split at hk
      · rename_i hc
        obtain ⟨rfl, rfl⟩ := hc
        exact lR_number_4 A C _ _ _ _ _ _ hk
      · cases hk
    · cases hk
  cases hk
def dR_number {β : Type} : Den β := fun as M k => match as with
  | [.inr (.inr (.inl (al0, w0, cl0)))] => if al0 = 17 ∧ cl0 = 0 then (mR_number w0 M).bind fun q => k (aI q.1) q.2 else none
  | _ => none
theorem wR_number {E : EV} (hsd : E.2.2.2 = 0) (l : Launch) (w0 : Nat) (M : Mem) (q : (Int32 × Mem)) (hq : mR_number w0 M = some q) : Con E l 2 yR_number prog_6_method_14_code 3 (some .int) [aR (17, w0, 0)] M (outI q).1 (outI q).2 := by
  refine con_of iR_number (Nat.le_of_ble_eq_true rfl) ?_
  intro p e s m args below meth c C
  exact lR_number (oR_number hsd l) C w0 M _ hq
theorem kR_number {E : EV} (hsd : E.2.2.2 = 0) (l : Launch) {β : Type} : DenOK E l 2 yR_number prog_6_method_14_code 3 (some .int) true (dR_number (β := β)) := by
  intro as M k res h
  unfold dR_number at h
  split at h
  ·
    split at h
    · rename_i hc
      obtain ⟨rfl, rfl⟩ := hc
      obtain ⟨q, hq, hk⟩ := Option.bind_eq_some_iff.mp h
      exact ⟨aI q.1, q.2, hk, rfl, wR_number hsd l _ M q hq⟩
    · cases h
  · cases h
theorem qR_number {β : Type} : RecOK 17 (dR_number (β := β)) := by
  intro as M k res h
  unfold dR_number at h
  split at h
  ·
    split at h
    · rename_i hc
      obtain ⟨rfl, rfl⟩ := hc
      exact ⟨_, _, _, rfl⟩
    · cases h
  · cases h
/-! ===== FreeLances$Reader.nameOf(I)I ===== -/
abbrev yR_nameOf : MethodName := ⟨"FreeLances$Reader", "nameOf", "(I)I"⟩
theorem iR_nameOf : MI yR_nameOf prog_6_method_15_code 2 (some .int) 1 := ⟨tw738, tw99, ⟨by decide, by decide⟩, by decide +kernel, by decide, by decide⟩
def cR_nameOf : List (Ent (Int32 × Mem)) := [(false, 0, 1, sLdA 0),
  (false, 1, 3, sGet 17 (fun w i M => aI (M 17 w i 2))),
  (false, 4, 32, sSw 124 [(0, 36), (1, 68), (2, 90), (3, 112)]),
  (false, 36, 1, sLdI 1),
  (false, 37, 2, sC 104),
  (false, 39, 3, sCmpNe 46),
  (false, 42, 1, sC 0),
  (false, 43, 3, sGoto 67),
  (false, 46, 1, sLdI 1),
  (false, 47, 2, sC 109),
  (false, 49, 3, sCmpNe 56),
  (false, 52, 1, sC 1),
  (false, 53, 3, sGoto 67),
  (false, 56, 1, sLdI 1),
  (false, 57, 2, sC 115),
  (false, 59, 3, sCmpNe 66),
  (false, 62, 1, sC 2),
  (false, 63, 3, sGoto 67),
  (false, 66, 1, sC (-1)),
  (false, 67, 1, sRetI),
  (false, 68, 1, sLdI 1),
  (false, 69, 2, sC 110),
  (false, 71, 3, sCmpNe 78),
  (false, 74, 1, sC 0),
  (false, 75, 3, sGoto 89),
  (false, 78, 1, sLdI 1),
  (false, 79, 2, sC 112),
  (false, 81, 3, sCmpNe 88),
  (false, 84, 1, sC 1),
  (false, 85, 3, sGoto 89),
  (false, 88, 1, sC (-1)),
  (false, 89, 1, sRetI),
  (false, 90, 1, sLdI 1),
  (false, 91, 2, sC 108),
  (false, 93, 3, sCmpNe 100),
  (false, 96, 1, sC 0),
  (false, 97, 3, sGoto 111),
  (false, 100, 1, sLdI 1),
  (false, 101, 2, sC 111),
  (false, 103, 3, sCmpNe 110),
  (false, 106, 1, sC 1),
  (false, 107, 3, sGoto 111),
  (false, 110, 1, sC (-1)),
  (false, 111, 1, sRetI),
  (false, 112, 1, sLdI 1),
  (false, 113, 2, sC 99),
  (false, 115, 3, sCmpNe 122),
  (false, 118, 1, sC 0),
  (false, 119, 3, sGoto 123),
  (false, 122, 1, sC (-1)),
  (false, 123, 1, sRetI),
  (false, 124, 1, sC (-1)),
  (false, 125, 1, sRetI)]
theorem oR_nameOf {E : EV} (hsd : E.2.2.2 = 0) (l : Launch) : AllOK E l 1 "FreeLances$Reader" prog_6_method_15_code 2 (some .int) outI (cR_nameOf) := by
  refine ak (ok_aload_n (k := 0) rfl (by decide +kernel)) ?_
  refine ak (ok_get (k := 2) ck4 kd17 (by decide) (fun _ _ _ => rfl) (fun _ _ _ _ _ => trivial) tw144 (by decide +kernel)) ?_
  refine ak (ok_table (df := 120) (lo := 0) (hi := 3) (offs := #[32, 64, 86, 108]) (by decide) (by decide) (by decide) (by decide +kernel)) ?_
  refine ak (ok_iload_n (k := 1) rfl (by decide +kernel)) ?_
  refine ak (ok_bipush (n := 104) (by decide) (by decide +kernel)) ?_
  refine ak (ok_icmp_ne (off := 7) (by decide) (by decide +kernel)) ?_
  refine ak (ok_iconst (n := 0) (by decide) (by decide +kernel)) ?_
  refine ak (ok_goto (off := 24) (by decide) (by decide +kernel)) ?_
  refine ak (ok_iload_n (k := 1) rfl (by decide +kernel)) ?_
  refine ak (ok_bipush (n := 109) (by decide) (by decide +kernel)) ?_
  refine ak (ok_icmp_ne (off := 7) (by decide) (by decide +kernel)) ?_
  refine ak (ok_iconst (n := 1) (by decide) (by decide +kernel)) ?_
  refine ak (ok_goto (off := 14) (by decide) (by decide +kernel)) ?_
  refine ak (ok_iload_n (k := 1) rfl (by decide +kernel)) ?_
  refine ak (ok_bipush (n := 115) (by decide) (by decide +kernel)) ?_
  refine ak (ok_icmp_ne (off := 7) (by decide) (by decide +kernel)) ?_
  refine ak (ok_iconst (n := 2) (by decide) (by decide +kernel)) ?_
  refine ak (ok_goto (off := 4) (by decide) (by decide +kernel)) ?_
  refine ak (ok_iconst (n := (-1)) (by decide) (by decide +kernel)) ?_
  refine ak (ok_ireturn rfl (by decide +kernel)) ?_
  refine ak (ok_iload_n (k := 1) rfl (by decide +kernel)) ?_
  refine ak (ok_bipush (n := 110) (by decide) (by decide +kernel)) ?_
  refine ak (ok_icmp_ne (off := 7) (by decide) (by decide +kernel)) ?_
  refine ak (ok_iconst (n := 0) (by decide) (by decide +kernel)) ?_
  refine ak (ok_goto (off := 14) (by decide) (by decide +kernel)) ?_
  refine ak (ok_iload_n (k := 1) rfl (by decide +kernel)) ?_
  refine ak (ok_bipush (n := 112) (by decide) (by decide +kernel)) ?_
  refine ak (ok_icmp_ne (off := 7) (by decide) (by decide +kernel)) ?_
  refine ak (ok_iconst (n := 1) (by decide) (by decide +kernel)) ?_
  refine ak (ok_goto (off := 4) (by decide) (by decide +kernel)) ?_
  refine ak (ok_iconst (n := (-1)) (by decide) (by decide +kernel)) ?_
  refine ak (ok_ireturn rfl (by decide +kernel)) ?_
  refine ak (ok_iload_n (k := 1) rfl (by decide +kernel)) ?_
  refine ak (ok_bipush (n := 108) (by decide) (by decide +kernel)) ?_
  refine ak (ok_icmp_ne (off := 7) (by decide) (by decide +kernel)) ?_
  refine ak (ok_iconst (n := 0) (by decide) (by decide +kernel)) ?_
  refine ak (ok_goto (off := 14) (by decide) (by decide +kernel)) ?_
  refine ak (ok_iload_n (k := 1) rfl (by decide +kernel)) ?_
  refine ak (ok_bipush (n := 111) (by decide) (by decide +kernel)) ?_
  refine ak (ok_icmp_ne (off := 7) (by decide) (by decide +kernel)) ?_
  refine ak (ok_iconst (n := 1) (by decide) (by decide +kernel)) ?_
  refine ak (ok_goto (off := 4) (by decide) (by decide +kernel)) ?_
  refine ak (ok_iconst (n := (-1)) (by decide) (by decide +kernel)) ?_
  refine ak (ok_ireturn rfl (by decide +kernel)) ?_
  refine ak (ok_iload_n (k := 1) rfl (by decide +kernel)) ?_
  refine ak (ok_bipush (n := 99) (by decide) (by decide +kernel)) ?_
  refine ak (ok_icmp_ne (off := 7) (by decide) (by decide +kernel)) ?_
  refine ak (ok_iconst (n := 0) (by decide) (by decide +kernel)) ?_
  refine ak (ok_goto (off := 4) (by decide) (by decide +kernel)) ?_
  refine ak (ok_iconst (n := (-1)) (by decide) (by decide +kernel)) ?_
  refine ak (ok_ireturn rfl (by decide +kernel)) ?_
  refine ak (ok_iconst (n := (-1)) (by decide) (by decide +kernel)) ?_
  refine ak (ok_ireturn rfl (by decide +kernel)) ?_
  exact trivial
set_option maxRecDepth 1000000 in
theorem eR_nameOf (w0 : Nat) (x1 : Int32) (M : Mem) : run (cR_nameOf) (fun _ _ _ _ => none) rtI 400 (seek (cR_nameOf) 0) [aR (17, w0, 0), aI x1] [] M = mR_nameOf w0 x1 M := id rfl
theorem lR_nameOf {E : EV} {l : Launch} {p : Program} {e : Env} {s : State} {m : MethodId} {args : Array Value} {below : List Frame} {meth : Method} {c : Code} (A : AllOK E l 1 "FreeLances$Reader" prog_6_method_15_code 2 (some .int) outI (cR_nameOf)) (C : Cx E p s m args meth c "FreeLances$Reader" prog_6_method_15_code 2 (some .int)) : ∀ (w0 : Nat) (x1 : Int32) (M : Mem) (res : (Int32 × Mem)), mR_nameOf w0 x1 M = some res → Wm E p l e 1 s m args below meth c 2 0 [aR (17, w0, 0), aI x1] [] M (outI res).1 (outI res).2 := by
  intro w0 x1 M res h
  refine run_at C A rfl hrtI (n := 400) ((eR_nameOf w0 x1 M).trans h) ?_
  intro t als st M hk; cases hk
def dR_nameOf {β : Type} : Den β := fun as M k => match as with
  | [.inr (.inr (.inl (al0, w0, cl0))), .inl x1] => if al0 = 17 ∧ cl0 = 0 then (mR_nameOf w0 x1 M).bind fun q => k (aI q.1) q.2 else none
  | _ => none
theorem wR_nameOf {E : EV} (hsd : E.2.2.2 = 0) (l : Launch) (w0 : Nat) (x1 : Int32) (M : Mem) (q : (Int32 × Mem)) (hq : mR_nameOf w0 x1 M = some q) : Con E l 1 yR_nameOf prog_6_method_15_code 2 (some .int) [aR (17, w0, 0), aI x1] M (outI q).1 (outI q).2 := by
  refine con_of iR_nameOf (Nat.le_of_ble_eq_true rfl) ?_
  intro p e s m args below meth c C
  exact lR_nameOf (oR_nameOf hsd l) C w0 x1 M _ hq
theorem kR_nameOf {E : EV} (hsd : E.2.2.2 = 0) (l : Launch) {β : Type} : DenOK E l 1 yR_nameOf prog_6_method_15_code 2 (some .int) true (dR_nameOf (β := β)) := by
  intro as M k res h
  unfold dR_nameOf at h
  split at h
  ·
    split at h
    · rename_i hc
      obtain ⟨rfl, rfl⟩ := hc
      obtain ⟨q, hq, hk⟩ := Option.bind_eq_some_iff.mp h
      exact ⟨aI q.1, q.2, hk, rfl, wR_nameOf hsd l _ _ M q hq⟩
    · cases h
  · cases h
theorem qR_nameOf {β : Type} : RecOK 17 (dR_nameOf (β := β)) := by
  intro as M k res h
  unfold dR_nameOf at h
  split at h
  ·
    split at h
    · rename_i hc
      obtain ⟨rfl, rfl⟩ := hc
      exact ⟨_, _, _, rfl⟩
    · cases h
  · cases h
abbrev yR_either : MethodName := ⟨"FreeLances$Reader", "either", "(I)I"⟩
theorem iR_either : MI yR_either prog_6_method_7_code 5 (some .int) 1 := ⟨tw702, tw99, ⟨by decide, by decide⟩, by decide +kernel, by decide, by decide⟩
def dR_either {β : Type} (rR_either : Nat → Int32 → Mem → Option (Int32 × Mem)) : Den β := fun as M k => match as with
  | [.inr (.inr (.inl (al0, w0, cl0))), .inl x1] => if al0 = 17 ∧ cl0 = 0 then (rR_either w0 x1 M).bind fun q => k (aI q.1) q.2 else none
  | _ => none
theorem kR_either {E : EV} {l : Launch} {D : Nat} {rR_either : Nat → Int32 → Mem → Option (Int32 × Mem)} (H : ∀ (w0 : Nat) (x1 : Int32) (M : Mem) (q : (Int32 × Mem)), rR_either w0 x1 M = some q → Con E l D yR_either prog_6_method_7_code 5 (some .int) [aR (17, w0, 0), aI x1] M (outI q).1 (outI q).2) {β : Type} : DenOK E l D yR_either prog_6_method_7_code 5 (some .int) true (dR_either (β := β) rR_either) := by
  intro as M k res h
  unfold dR_either at h
  split at h
  ·
    split at h
    · rename_i hc
      obtain ⟨rfl, rfl⟩ := hc
      obtain ⟨q, hq, hk⟩ := Option.bind_eq_some_iff.mp h
      exact ⟨aI q.1, q.2, hk, rfl, H _ _ M q hq⟩
    · cases h
  · cases h
theorem qR_either {β : Type} (rR_either : Nat → Int32 → Mem → Option (Int32 × Mem)) : RecOK 17 (dR_either (β := β) rR_either) := by
  intro as M k res h
  unfold dR_either at h
  split at h
  ·
    split at h
    · rename_i hc
      obtain ⟨rfl, rfl⟩ := hc
      exact ⟨_, _, _, rfl⟩
    · cases h
  · cases h
abbrev yR_both : MethodName := ⟨"FreeLances$Reader", "both", "(I)I"⟩
theorem iR_both : MI yR_both prog_6_method_8_code 5 (some .int) 1 := ⟨tw706, tw99, ⟨by decide, by decide⟩, by decide +kernel, by decide, by decide⟩
def dR_both {β : Type} (rR_both : Nat → Int32 → Mem → Option (Int32 × Mem)) : Den β := fun as M k => match as with
  | [.inr (.inr (.inl (al0, w0, cl0))), .inl x1] => if al0 = 17 ∧ cl0 = 0 then (rR_both w0 x1 M).bind fun q => k (aI q.1) q.2 else none
  | _ => none
theorem kR_both {E : EV} {l : Launch} {D : Nat} {rR_both : Nat → Int32 → Mem → Option (Int32 × Mem)} (H : ∀ (w0 : Nat) (x1 : Int32) (M : Mem) (q : (Int32 × Mem)), rR_both w0 x1 M = some q → Con E l D yR_both prog_6_method_8_code 5 (some .int) [aR (17, w0, 0), aI x1] M (outI q).1 (outI q).2) {β : Type} : DenOK E l D yR_both prog_6_method_8_code 5 (some .int) true (dR_both (β := β) rR_both) := by
  intro as M k res h
  unfold dR_both at h
  split at h
  ·
    split at h
    · rename_i hc
      obtain ⟨rfl, rfl⟩ := hc
      obtain ⟨q, hq, hk⟩ := Option.bind_eq_some_iff.mp h
      exact ⟨aI q.1, q.2, hk, rfl, H _ _ M q hq⟩
    · cases h
  · cases h
theorem qR_both {β : Type} (rR_both : Nat → Int32 → Mem → Option (Int32 × Mem)) : RecOK 17 (dR_both (β := β) rR_both) := by
  intro as M k res h
  unfold dR_both at h
  split at h
  ·
    split at h
    · rename_i hc
      obtain ⟨rfl, rfl⟩ := hc
      exact ⟨_, _, _, rfl⟩
    · cases h
  · cases h
abbrev yR_compared : MethodName := ⟨"FreeLances$Reader", "compared", "(I)I"⟩
theorem iR_compared : MI yR_compared prog_6_method_9_code 6 (some .int) 1 := ⟨tw710, tw99, ⟨by decide, by decide⟩, by decide +kernel, by decide, by decide⟩
def dR_compared {β : Type} (rR_compared : Nat → Int32 → Mem → Option (Int32 × Mem)) : Den β := fun as M k => match as with
  | [.inr (.inr (.inl (al0, w0, cl0))), .inl x1] => if al0 = 17 ∧ cl0 = 0 then (rR_compared w0 x1 M).bind fun q => k (aI q.1) q.2 else none
  | _ => none
theorem kR_compared {E : EV} {l : Launch} {D : Nat} {rR_compared : Nat → Int32 → Mem → Option (Int32 × Mem)} (H : ∀ (w0 : Nat) (x1 : Int32) (M : Mem) (q : (Int32 × Mem)), rR_compared w0 x1 M = some q → Con E l D yR_compared prog_6_method_9_code 6 (some .int) [aR (17, w0, 0), aI x1] M (outI q).1 (outI q).2) {β : Type} : DenOK E l D yR_compared prog_6_method_9_code 6 (some .int) true (dR_compared (β := β) rR_compared) := by
  intro as M k res h
  unfold dR_compared at h
  split at h
  ·
    split at h
    · rename_i hc
      obtain ⟨rfl, rfl⟩ := hc
      obtain ⟨q, hq, hk⟩ := Option.bind_eq_some_iff.mp h
      exact ⟨aI q.1, q.2, hk, rfl, H _ _ M q hq⟩
    · cases h
  · cases h
theorem qR_compared {β : Type} (rR_compared : Nat → Int32 → Mem → Option (Int32 × Mem)) : RecOK 17 (dR_compared (β := β) rR_compared) := by
  intro as M k res h
  unfold dR_compared at h
  split at h
  ·
    split at h
    · rename_i hc
      obtain ⟨rfl, rfl⟩ := hc
      exact ⟨_, _, _, rfl⟩
    · cases h
  · cases h
abbrev yR_added : MethodName := ⟨"FreeLances$Reader", "added", "(I)I"⟩
theorem iR_added : MI yR_added prog_6_method_10_code 6 (some .int) 1 := ⟨tw714, tw99, ⟨by decide, by decide⟩, by decide +kernel, by decide, by decide⟩
def dR_added {β : Type} (rR_added : Nat → Int32 → Mem → Option (Int32 × Mem)) : Den β := fun as M k => match as with
  | [.inr (.inr (.inl (al0, w0, cl0))), .inl x1] => if al0 = 17 ∧ cl0 = 0 then (rR_added w0 x1 M).bind fun q => k (aI q.1) q.2 else none
  | _ => none
theorem kR_added {E : EV} {l : Launch} {D : Nat} {rR_added : Nat → Int32 → Mem → Option (Int32 × Mem)} (H : ∀ (w0 : Nat) (x1 : Int32) (M : Mem) (q : (Int32 × Mem)), rR_added w0 x1 M = some q → Con E l D yR_added prog_6_method_10_code 6 (some .int) [aR (17, w0, 0), aI x1] M (outI q).1 (outI q).2) {β : Type} : DenOK E l D yR_added prog_6_method_10_code 6 (some .int) true (dR_added (β := β) rR_added) := by
  intro as M k res h
  unfold dR_added at h
  split at h
  ·
    split at h
    · rename_i hc
      obtain ⟨rfl, rfl⟩ := hc
      obtain ⟨q, hq, hk⟩ := Option.bind_eq_some_iff.mp h
      exact ⟨aI q.1, q.2, hk, rfl, H _ _ M q hq⟩
    · cases h
  · cases h
theorem qR_added {β : Type} (rR_added : Nat → Int32 → Mem → Option (Int32 × Mem)) : RecOK 17 (dR_added (β := β) rR_added) := by
  intro as M k res h
  unfold dR_added at h
  split at h
  ·
    split at h
    · rename_i hc
      obtain ⟨rfl, rfl⟩ := hc
      exact ⟨_, _, _, rfl⟩
    · cases h
  · cases h
abbrev yR_multiplied : MethodName := ⟨"FreeLances$Reader", "multiplied", "(I)I"⟩
theorem iR_multiplied : MI yR_multiplied prog_6_method_11_code 6 (some .int) 1 := ⟨tw718, tw99, ⟨by decide, by decide⟩, by decide +kernel, by decide, by decide⟩
def dR_multiplied {β : Type} (rR_multiplied : Nat → Int32 → Mem → Option (Int32 × Mem)) : Den β := fun as M k => match as with
  | [.inr (.inr (.inl (al0, w0, cl0))), .inl x1] => if al0 = 17 ∧ cl0 = 0 then (rR_multiplied w0 x1 M).bind fun q => k (aI q.1) q.2 else none
  | _ => none
theorem kR_multiplied {E : EV} {l : Launch} {D : Nat} {rR_multiplied : Nat → Int32 → Mem → Option (Int32 × Mem)} (H : ∀ (w0 : Nat) (x1 : Int32) (M : Mem) (q : (Int32 × Mem)), rR_multiplied w0 x1 M = some q → Con E l D yR_multiplied prog_6_method_11_code 6 (some .int) [aR (17, w0, 0), aI x1] M (outI q).1 (outI q).2) {β : Type} : DenOK E l D yR_multiplied prog_6_method_11_code 6 (some .int) true (dR_multiplied (β := β) rR_multiplied) := by
  intro as M k res h
  unfold dR_multiplied at h
  split at h
  ·
    split at h
    · rename_i hc
      obtain ⟨rfl, rfl⟩ := hc
      obtain ⟨q, hq, hk⟩ := Option.bind_eq_some_iff.mp h
      exact ⟨aI q.1, q.2, hk, rfl, H _ _ M q hq⟩
    · cases h
  · cases h
theorem qR_multiplied {β : Type} (rR_multiplied : Nat → Int32 → Mem → Option (Int32 × Mem)) : RecOK 17 (dR_multiplied (β := β) rR_multiplied) := by
  intro as M k res h
  unfold dR_multiplied at h
  split at h
  ·
    split at h
    · rename_i hc
      obtain ⟨rfl, rfl⟩ := hc
      exact ⟨_, _, _, rfl⟩
    · cases h
  · cases h
abbrev yR_single : MethodName := ⟨"FreeLances$Reader", "single", "(I)I"⟩
theorem iR_single : MI yR_single prog_6_method_12_code 4 (some .int) 1 := ⟨tw722, tw99, ⟨by decide, by decide⟩, by decide +kernel, by decide, by decide⟩
def dR_single {β : Type} (rR_single : Nat → Int32 → Mem → Option (Int32 × Mem)) : Den β := fun as M k => match as with
  | [.inr (.inr (.inl (al0, w0, cl0))), .inl x1] => if al0 = 17 ∧ cl0 = 0 then (rR_single w0 x1 M).bind fun q => k (aI q.1) q.2 else none
  | _ => none
theorem kR_single {E : EV} {l : Launch} {D : Nat} {rR_single : Nat → Int32 → Mem → Option (Int32 × Mem)} (H : ∀ (w0 : Nat) (x1 : Int32) (M : Mem) (q : (Int32 × Mem)), rR_single w0 x1 M = some q → Con E l D yR_single prog_6_method_12_code 4 (some .int) [aR (17, w0, 0), aI x1] M (outI q).1 (outI q).2) {β : Type} : DenOK E l D yR_single prog_6_method_12_code 4 (some .int) true (dR_single (β := β) rR_single) := by
  intro as M k res h
  unfold dR_single at h
  split at h
  ·
    split at h
    · rename_i hc
      obtain ⟨rfl, rfl⟩ := hc
      obtain ⟨q, hq, hk⟩ := Option.bind_eq_some_iff.mp h
      exact ⟨aI q.1, q.2, hk, rfl, H _ _ M q hq⟩
    · cases h
  · cases h
theorem qR_single {β : Type} (rR_single : Nat → Int32 → Mem → Option (Int32 × Mem)) : RecOK 17 (dR_single (β := β) rR_single) := by
  intro as M k res h
  unfold dR_single at h
  split at h
  ·
    split at h
    · rename_i hc
      obtain ⟨rfl, rfl⟩ := hc
      exact ⟨_, _, _, rfl⟩
    · cases h
  · cases h
abbrev yR_opened : MethodName := ⟨"FreeLances$Reader", "opened", "(II)I"⟩
theorem iR_opened : MI yR_opened prog_6_method_13_code 4 (some .int) 2 := ⟨tw734, tw99, ⟨by decide, by decide⟩, by decide +kernel, by decide, by decide⟩
def dR_opened {β : Type} (rR_opened : Nat → Int32 → Int32 → Mem → Option (Int32 × Mem)) : Den β := fun as M k => match as with
  | [.inr (.inr (.inl (al0, w0, cl0))), .inl x1, .inl x2] => if al0 = 17 ∧ cl0 = 0 then (rR_opened w0 x1 x2 M).bind fun q => k (aI q.1) q.2 else none
  | _ => none
theorem kR_opened {E : EV} {l : Launch} {D : Nat} {rR_opened : Nat → Int32 → Int32 → Mem → Option (Int32 × Mem)} (H : ∀ (w0 : Nat) (x1 : Int32) (x2 : Int32) (M : Mem) (q : (Int32 × Mem)), rR_opened w0 x1 x2 M = some q → Con E l D yR_opened prog_6_method_13_code 4 (some .int) [aR (17, w0, 0), aI x1, aI x2] M (outI q).1 (outI q).2) {β : Type} : DenOK E l D yR_opened prog_6_method_13_code 4 (some .int) true (dR_opened (β := β) rR_opened) := by
  intro as M k res h
  unfold dR_opened at h
  split at h
  ·
    split at h
    · rename_i hc
      obtain ⟨rfl, rfl⟩ := hc
      obtain ⟨q, hq, hk⟩ := Option.bind_eq_some_iff.mp h
      exact ⟨aI q.1, q.2, hk, rfl, H _ _ _ M q hq⟩
    · cases h
  · cases h
theorem qR_opened {β : Type} (rR_opened : Nat → Int32 → Int32 → Mem → Option (Int32 × Mem)) : RecOK 17 (dR_opened (β := β) rR_opened) := by
  intro as M k res h
  unfold dR_opened at h
  split at h
  ·
    split at h
    · rename_i hc
      obtain ⟨rfl, rfl⟩ := hc
      exact ⟨_, _, _, rfl⟩
    · cases h
  · cases h
/-! ===== FreeLances$Reader.either(I)I ===== -/
def cR_either (rR_both : Nat → Int32 → Mem → Option (Int32 × Mem)) : List (Ent (Int32 × Mem)) := [(false, 0, 1, sLdA 0),
  (false, 1, 1, sLdI 1),
  (false, 2, 3, sInv 2 true (dR_both rR_both)),
  (false, 5, 1, sStI 2),
  (false, 6, 1, sC 0),
  (false, 7, 1, sStI 3),
  (true, 8, 1, sLdI 3),
  (false, 9, 2, sC 50),
  (false, 11, 3, sCmpGe 63),
  (false, 14, 1, sLdA 0),
  (false, 15, 2, sC 124),
  (false, 17, 2, sC 124),
  (false, 19, 3, sInv 3 true dR_goesOnWith),
  (false, 22, 3, sIfEq 63),
  (false, 25, 1, sLdA 0),
  (false, 26, 1, sDup),
  (false, 27, 3, sGet 17 (fun w i M => aI (M 17 w i 6))),
  (false, 30, 1, sC 1),
  (false, 31, 1, sBin (fun x y => x + y)),
  (false, 32, 3, sPut 17 6),
  (false, 35, 1, sLdA 0),
  (false, 36, 1, sLdI 1),
  (false, 37, 3, sInv 2 true (dR_both rR_both)),
  (false, 40, 2, sStI 4),
  (false, 42, 1, sLdI 2),
  (false, 43, 3, sIfNe 51),
  (false, 46, 2, sLdI 4),
  (false, 48, 3, sIfEq 55),
  (false, 51, 1, sC 1),
  (false, 52, 3, sGoto 56),
  (false, 55, 1, sC 0),
  (false, 56, 1, sStI 2),
  (false, 57, 3, sInc 3 1),
  (false, 60, 3, sGoto 8),
  (false, 63, 1, sLdI 2),
  (false, 64, 1, sRetI)]
theorem oR_either {E : EV} (hsd : E.2.2.2 = 0) (l : Launch) (D : Nat) (hD : 2 ≤ D) (rR_both : Nat → Int32 → Mem → Option (Int32 × Mem)) (hR_both : ∀ {β : Type}, DenOK E l D yR_both prog_6_method_8_code 5 (some .int) true (dR_both (β := β) rR_both)) : AllOK E l (D + 1) "FreeLances$Reader" prog_6_method_7_code 5 (some .int) outI (cR_either rR_both) := by
  refine ak (ok_aload_n (k := 0) rfl (by decide +kernel)) ?_
  refine ak (ok_iload_n (k := 1) rfl (by decide +kernel)) ?_
  refine ak (ok_invV (r := 17) hR_both (qR_both rR_both) ck4 kd17 iR_both tw705 tw7 (by omega) tw703 (by decide +kernel)) ?_
  refine ak (ok_istore_n (k := 2) rfl (by decide) (by decide +kernel)) ?_
  refine ak (ok_iconst (n := 0) (by decide) (by decide +kernel)) ?_
  refine ak (ok_istore_n (k := 3) rfl (by decide) (by decide +kernel)) ?_
  refine ak (ok_iload_n (k := 3) rfl (by decide +kernel)) ?_
  refine ak (ok_bipush (n := 50) (by decide) (by decide +kernel)) ?_
  refine ak (ok_icmp_ge (off := 52) (by decide) (by decide +kernel)) ?_
  refine ak (ok_aload_n (k := 0) rfl (by decide +kernel)) ?_
  refine ak (ok_bipush (n := 124) (by decide) (by decide +kernel)) ?_
  refine ak (ok_bipush (n := 124) (by decide) (by decide +kernel)) ?_
  refine ak (ok_invV (r := 17) (kR_goesOnWith hsd l) qR_goesOnWith ck4 kd17 iR_goesOnWith tw741 tw16 (by omega) tw739 (by decide +kernel)) ?_
  refine ak (ok_if_eq (off := 41) (by decide) (by decide +kernel)) ?_
  refine ak (ok_aload_n (k := 0) rfl (by decide +kernel)) ?_
  refine ak (ok_dup (by decide +kernel)) ?_
  refine ak (ok_get (k := 6) ck4 kd17 (by decide) (fun _ _ _ => rfl) (fun _ _ _ _ _ => trivial) tw148 (by decide +kernel)) ?_
  refine ak (ok_iconst (n := 1) (by decide) (by decide +kernel)) ?_
  refine ak (ok_iadd (by decide +kernel)) ?_
  refine ak (ok_put (k := 6) ck4 kd17 (by decide) (fun _ _ _ => rfl) rfl rfl (by decide) tw148 (by decide +kernel)) ?_
  refine ak (ok_aload_n (k := 0) rfl (by decide +kernel)) ?_
  refine ak (ok_iload_n (k := 1) rfl (by decide +kernel)) ?_
  refine ak (ok_invV (r := 17) hR_both (qR_both rR_both) ck4 kd17 iR_both tw705 tw7 (by omega) tw703 (by decide +kernel)) ?_
  refine ak (ok_istore (by decide) (by decide +kernel)) ?_
  refine ak (ok_iload_n (k := 2) rfl (by decide +kernel)) ?_
  refine ak (ok_if_ne (off := 8) (by decide) (by decide +kernel)) ?_
  refine ak (ok_iload (by decide +kernel)) ?_
  refine ak (ok_if_eq (off := 7) (by decide) (by decide +kernel)) ?_
  refine ak (ok_iconst (n := 1) (by decide) (by decide +kernel)) ?_
  refine ak (ok_goto (off := 4) (by decide) (by decide +kernel)) ?_
  refine ak (ok_iconst (n := 0) (by decide) (by decide +kernel)) ?_
  refine ak (ok_istore_n (k := 2) rfl (by decide) (by decide +kernel)) ?_
  refine ak (ok_iinc (n := 1) (by decide) (by decide) (by decide +kernel)) ?_
  refine ak (ok_goto (off := (-52)) (by decide) (by decide +kernel)) ?_
  refine ak (ok_iload_n (k := 2) rfl (by decide +kernel)) ?_
  refine ak (ok_ireturn rfl (by decide +kernel)) ?_
  exact trivial
def KR_either_8 (j8 : Nat → Int32 → Int32 → Int32 → Mem → Option (Int32 × Mem)) : Jm (Int32 × Mem) := fun t als st M =>
  if t = 8 then (match als, st with
  | [.inr (.inr (.inl (al0, w0, cl0))), .inl x1, .inl x2, .inl x3, _], [] => if al0 = 17 ∧ cl0 = 0 then j8 w0 x1 x2 x3 M else none
  | _, _ => none) else
  none
set_option maxRecDepth 1000000 in
theorem eR_either_8 (rR_both : Nat → Int32 → Mem → Option (Int32 × Mem)) (j8 : Nat → Int32 → Int32 → Int32 → Mem → Option (Int32 × Mem)) (w0 : Nat) (x1 : Int32) (x2 : Int32) (x3 : Int32) (M : Mem) (u4 : AV) : run (cR_either rR_both) (KR_either_8 j8) rtI 400 (seek (cR_either rR_both) 8) [aR (17, w0, 0), aI x1, aI x2, aI x3, u4] [] M = mR_either_8b rR_both j8 w0 x1 x2 x3 M := id rfl
theorem lR_either_8 {E : EV} {l : Launch} {p : Program} {e : Env} {s : State} {m : MethodId} {args : Array Value} {below : List Frame} {meth : Method} {c : Code} {D : Nat} (rR_both : Nat → Int32 → Mem → Option (Int32 × Mem)) (A : AllOK E l (D + 1) "FreeLances$Reader" prog_6_method_7_code 5 (some .int) outI (cR_either rR_both)) (C : Cx E p s m args meth c "FreeLances$Reader" prog_6_method_7_code 5 (some .int)) : ∀ (n : Nat), ∀ (w0 : Nat) (x1 : Int32) (x2 : Int32) (x3 : Int32) (M : Mem) (res : (Int32 × Mem)), mR_either_8 rR_both n w0 x1 x2 x3 M = some res → ∀ (u4 : AV), Wm E p l e (D + 1) s m args below meth c 5 8 [aR (17, w0, 0), aI x1, aI x2, aI x3, u4] [] M (outI res).1 (outI res).2 := by
  intro n
  induction n with
  | zero => intro _ _ _ _ M res h; cases h
  | succ n ih =>
    intro w0 x1 x2 x3 M res h u4
    refine run_at C A rfl hrtI (n := 400) ((eR_either_8 rR_both (mR_either_8 rR_both n) w0 x1 x2 x3 M u4).trans h) ?_
    intro t als st M hk
    unfold KR_either_8 at hk
    split at hk
    · rename_i ht
      subst ht
      split at hk
      · split at hk
        · rename_i hc
          obtain ⟨rfl, rfl⟩ := hc
          exact ih _ _ _ _ _ _ hk _
        · cases hk
      · cases hk
    cases hk
def KR_either (j8 : Nat → Int32 → Int32 → Int32 → Mem → Option (Int32 × Mem)) : Jm (Int32 × Mem) := fun t als st M =>
  if t = 8 then (match als, st with
  | [.inr (.inr (.inl (al0, w0, cl0))), .inl x1, .inl x2, .inl x3, _], [] => if al0 = 17 ∧ cl0 = 0 then j8 w0 x1 x2 x3 M else none
  | _, _ => none) else
  none
set_option maxRecDepth 1000000 in
theorem eR_either (rR_both : Nat → Int32 → Mem → Option (Int32 × Mem)) (j8 : Nat → Int32 → Int32 → Int32 → Mem → Option (Int32 × Mem)) (w0 : Nat) (x1 : Int32) (M : Mem) : run (cR_either rR_both) (KR_either j8) rtI 400 (seek (cR_either rR_both) 0) [aR (17, w0, 0), aI x1, aU, aU, aU] [] M = mR_eitherb rR_both j8 w0 x1 M := id rfl
theorem lR_either {E : EV} {l : Launch} {p : Program} {e : Env} {s : State} {m : MethodId} {args : Array Value} {below : List Frame} {meth : Method} {c : Code} {D : Nat} (rR_both : Nat → Int32 → Mem → Option (Int32 × Mem)) (A : AllOK E l (D + 1) "FreeLances$Reader" prog_6_method_7_code 5 (some .int) outI (cR_either rR_both)) (C : Cx E p s m args meth c "FreeLances$Reader" prog_6_method_7_code 5 (some .int)) : ∀ (w0 : Nat) (x1 : Int32) (M : Mem) (res : (Int32 × Mem)), mR_either rR_both w0 x1 M = some res → Wm E p l e (D + 1) s m args below meth c 5 0 [aR (17, w0, 0), aI x1, aU, aU, aU] [] M (outI res).1 (outI res).2 := by
  intro w0 x1 M res h
  refine run_at C A rfl hrtI (n := 400) ((eR_either rR_both (mR_either_8 rR_both fuel) w0 x1 M).trans h) ?_
  intro t als st M hk
  unfold KR_either at hk
  split at hk
  · rename_i ht
    subst ht
    split at hk
    · split at hk
      · rename_i hc
        obtain ⟨rfl, rfl⟩ := hc
        exact lR_either_8 _ A C _ _ _ _ _ _ _ hk _
      · cases hk
    · cases hk
  cases hk
theorem wR_either {E : EV} (hsd : E.2.2.2 = 0) (l : Launch) (D : Nat) (hD : 2 ≤ D) (rR_both : Nat → Int32 → Mem → Option (Int32 × Mem)) (hR_both : ∀ {β : Type}, DenOK E l D yR_both prog_6_method_8_code 5 (some .int) true (dR_both (β := β) rR_both)) (w0 : Nat) (x1 : Int32) (M : Mem) (q : (Int32 × Mem)) (hq : mR_either rR_both w0 x1 M = some q) : Con E l (D + 1) yR_either prog_6_method_7_code 5 (some .int) [aR (17, w0, 0), aI x1] M (outI q).1 (outI q).2 := by
  refine con_of iR_either (Nat.le_of_ble_eq_true rfl) ?_
  intro p e s m args below meth c C
  exact lR_either rR_both (oR_either hsd l D hD rR_both hR_both) C w0 x1 M _ hq
/-! ===== FreeLances$Reader.both(I)I ===== -/
def cR_both (rR_compared : Nat → Int32 → Mem → Option (Int32 × Mem)) : List (Ent (Int32 × Mem)) := [(false, 0, 1, sLdA 0),
  (false, 1, 1, sLdI 1),
  (false, 2, 3, sInv 2 true (dR_compared rR_compared)),
  (false, 5, 1, sStI 2),
  (false, 6, 1, sC 0),
  (false, 7, 1, sStI 3),
  (true, 8, 1, sLdI 3),
  (false, 9, 2, sC 50),
  (false, 11, 3, sCmpGe 63),
  (false, 14, 1, sLdA 0),
  (false, 15, 2, sC 38),
  (false, 17, 2, sC 38),
  (false, 19, 3, sInv 3 true dR_goesOnWith),
  (false, 22, 3, sIfEq 63),
  (false, 25, 1, sLdA 0),
  (false, 26, 1, sDup),
  (false, 27, 3, sGet 17 (fun w i M => aI (M 17 w i 6))),
  (false, 30, 1, sC 1),
  (false, 31, 1, sBin (fun x y => x + y)),
  (false, 32, 3, sPut 17 6),
  (false, 35, 1, sLdA 0),
  (false, 36, 1, sLdI 1),
  (false, 37, 3, sInv 2 true (dR_compared rR_compared)),
  (false, 40, 2, sStI 4),
  (false, 42, 1, sLdI 2),
  (false, 43, 3, sIfEq 55),
  (false, 46, 2, sLdI 4),
  (false, 48, 3, sIfEq 55),
  (false, 51, 1, sC 1),
  (false, 52, 3, sGoto 56),
  (false, 55, 1, sC 0),
  (false, 56, 1, sStI 2),
  (false, 57, 3, sInc 3 1),
  (false, 60, 3, sGoto 8),
  (false, 63, 1, sLdI 2),
  (false, 64, 1, sRetI)]
theorem oR_both {E : EV} (hsd : E.2.2.2 = 0) (l : Launch) (D : Nat) (hD : 2 ≤ D) (rR_compared : Nat → Int32 → Mem → Option (Int32 × Mem)) (hR_compared : ∀ {β : Type}, DenOK E l D yR_compared prog_6_method_9_code 6 (some .int) true (dR_compared (β := β) rR_compared)) : AllOK E l (D + 1) "FreeLances$Reader" prog_6_method_8_code 5 (some .int) outI (cR_both rR_compared) := by
  refine ak (ok_aload_n (k := 0) rfl (by decide +kernel)) ?_
  refine ak (ok_iload_n (k := 1) rfl (by decide +kernel)) ?_
  refine ak (ok_invV (r := 17) hR_compared (qR_compared rR_compared) ck4 kd17 iR_compared tw709 tw8 (by omega) tw707 (by decide +kernel)) ?_
  refine ak (ok_istore_n (k := 2) rfl (by decide) (by decide +kernel)) ?_
  refine ak (ok_iconst (n := 0) (by decide) (by decide +kernel)) ?_
  refine ak (ok_istore_n (k := 3) rfl (by decide) (by decide +kernel)) ?_
  refine ak (ok_iload_n (k := 3) rfl (by decide +kernel)) ?_
  refine ak (ok_bipush (n := 50) (by decide) (by decide +kernel)) ?_
  refine ak (ok_icmp_ge (off := 52) (by decide) (by decide +kernel)) ?_
  refine ak (ok_aload_n (k := 0) rfl (by decide +kernel)) ?_
  refine ak (ok_bipush (n := 38) (by decide) (by decide +kernel)) ?_
  refine ak (ok_bipush (n := 38) (by decide) (by decide +kernel)) ?_
  refine ak (ok_invV (r := 17) (kR_goesOnWith hsd l) qR_goesOnWith ck4 kd17 iR_goesOnWith tw741 tw16 (by omega) tw739 (by decide +kernel)) ?_
  refine ak (ok_if_eq (off := 41) (by decide) (by decide +kernel)) ?_
  refine ak (ok_aload_n (k := 0) rfl (by decide +kernel)) ?_
  refine ak (ok_dup (by decide +kernel)) ?_
  refine ak (ok_get (k := 6) ck4 kd17 (by decide) (fun _ _ _ => rfl) (fun _ _ _ _ _ => trivial) tw148 (by decide +kernel)) ?_
  refine ak (ok_iconst (n := 1) (by decide) (by decide +kernel)) ?_
  refine ak (ok_iadd (by decide +kernel)) ?_
  refine ak (ok_put (k := 6) ck4 kd17 (by decide) (fun _ _ _ => rfl) rfl rfl (by decide) tw148 (by decide +kernel)) ?_
  refine ak (ok_aload_n (k := 0) rfl (by decide +kernel)) ?_
  refine ak (ok_iload_n (k := 1) rfl (by decide +kernel)) ?_
  refine ak (ok_invV (r := 17) hR_compared (qR_compared rR_compared) ck4 kd17 iR_compared tw709 tw8 (by omega) tw707 (by decide +kernel)) ?_
  refine ak (ok_istore (by decide) (by decide +kernel)) ?_
  refine ak (ok_iload_n (k := 2) rfl (by decide +kernel)) ?_
  refine ak (ok_if_eq (off := 12) (by decide) (by decide +kernel)) ?_
  refine ak (ok_iload (by decide +kernel)) ?_
  refine ak (ok_if_eq (off := 7) (by decide) (by decide +kernel)) ?_
  refine ak (ok_iconst (n := 1) (by decide) (by decide +kernel)) ?_
  refine ak (ok_goto (off := 4) (by decide) (by decide +kernel)) ?_
  refine ak (ok_iconst (n := 0) (by decide) (by decide +kernel)) ?_
  refine ak (ok_istore_n (k := 2) rfl (by decide) (by decide +kernel)) ?_
  refine ak (ok_iinc (n := 1) (by decide) (by decide) (by decide +kernel)) ?_
  refine ak (ok_goto (off := (-52)) (by decide) (by decide +kernel)) ?_
  refine ak (ok_iload_n (k := 2) rfl (by decide +kernel)) ?_
  refine ak (ok_ireturn rfl (by decide +kernel)) ?_
  exact trivial
def KR_both_8 (j8 : Nat → Int32 → Int32 → Int32 → Mem → Option (Int32 × Mem)) : Jm (Int32 × Mem) := fun t als st M =>
  if t = 8 then (match als, st with
  | [.inr (.inr (.inl (al0, w0, cl0))), .inl x1, .inl x2, .inl x3, _], [] => if al0 = 17 ∧ cl0 = 0 then j8 w0 x1 x2 x3 M else none
  | _, _ => none) else
  none
set_option maxRecDepth 1000000 in
theorem eR_both_8 (rR_compared : Nat → Int32 → Mem → Option (Int32 × Mem)) (j8 : Nat → Int32 → Int32 → Int32 → Mem → Option (Int32 × Mem)) (w0 : Nat) (x1 : Int32) (x2 : Int32) (x3 : Int32) (M : Mem) (u4 : AV) : run (cR_both rR_compared) (KR_both_8 j8) rtI 400 (seek (cR_both rR_compared) 8) [aR (17, w0, 0), aI x1, aI x2, aI x3, u4] [] M = mR_both_8b rR_compared j8 w0 x1 x2 x3 M := id rfl
theorem lR_both_8 {E : EV} {l : Launch} {p : Program} {e : Env} {s : State} {m : MethodId} {args : Array Value} {below : List Frame} {meth : Method} {c : Code} {D : Nat} (rR_compared : Nat → Int32 → Mem → Option (Int32 × Mem)) (A : AllOK E l (D + 1) "FreeLances$Reader" prog_6_method_8_code 5 (some .int) outI (cR_both rR_compared)) (C : Cx E p s m args meth c "FreeLances$Reader" prog_6_method_8_code 5 (some .int)) : ∀ (n : Nat), ∀ (w0 : Nat) (x1 : Int32) (x2 : Int32) (x3 : Int32) (M : Mem) (res : (Int32 × Mem)), mR_both_8 rR_compared n w0 x1 x2 x3 M = some res → ∀ (u4 : AV), Wm E p l e (D + 1) s m args below meth c 5 8 [aR (17, w0, 0), aI x1, aI x2, aI x3, u4] [] M (outI res).1 (outI res).2 := by
  intro n
  induction n with
  | zero => intro _ _ _ _ M res h; cases h
  | succ n ih =>
    intro w0 x1 x2 x3 M res h u4
    refine run_at C A rfl hrtI (n := 400) ((eR_both_8 rR_compared (mR_both_8 rR_compared n) w0 x1 x2 x3 M u4).trans h) ?_
    intro t als st M hk
    unfold KR_both_8 at hk
    split at hk
    · rename_i ht
      subst ht
      split at hk
      · split at hk
        · rename_i hc
          obtain ⟨rfl, rfl⟩ := hc
          exact ih _ _ _ _ _ _ hk _
        · cases hk
      · cases hk
    cases hk
def KR_both (j8 : Nat → Int32 → Int32 → Int32 → Mem → Option (Int32 × Mem)) : Jm (Int32 × Mem) := fun t als st M =>
  if t = 8 then (match als, st with
  | [.inr (.inr (.inl (al0, w0, cl0))), .inl x1, .inl x2, .inl x3, _], [] => if al0 = 17 ∧ cl0 = 0 then j8 w0 x1 x2 x3 M else none
  | _, _ => none) else
  none
set_option maxRecDepth 1000000 in
theorem eR_both (rR_compared : Nat → Int32 → Mem → Option (Int32 × Mem)) (j8 : Nat → Int32 → Int32 → Int32 → Mem → Option (Int32 × Mem)) (w0 : Nat) (x1 : Int32) (M : Mem) : run (cR_both rR_compared) (KR_both j8) rtI 400 (seek (cR_both rR_compared) 0) [aR (17, w0, 0), aI x1, aU, aU, aU] [] M = mR_bothb rR_compared j8 w0 x1 M := id rfl
theorem lR_both {E : EV} {l : Launch} {p : Program} {e : Env} {s : State} {m : MethodId} {args : Array Value} {below : List Frame} {meth : Method} {c : Code} {D : Nat} (rR_compared : Nat → Int32 → Mem → Option (Int32 × Mem)) (A : AllOK E l (D + 1) "FreeLances$Reader" prog_6_method_8_code 5 (some .int) outI (cR_both rR_compared)) (C : Cx E p s m args meth c "FreeLances$Reader" prog_6_method_8_code 5 (some .int)) : ∀ (w0 : Nat) (x1 : Int32) (M : Mem) (res : (Int32 × Mem)), mR_both rR_compared w0 x1 M = some res → Wm E p l e (D + 1) s m args below meth c 5 0 [aR (17, w0, 0), aI x1, aU, aU, aU] [] M (outI res).1 (outI res).2 := by
  intro w0 x1 M res h
  refine run_at C A rfl hrtI (n := 400) ((eR_both rR_compared (mR_both_8 rR_compared fuel) w0 x1 M).trans h) ?_
  intro t als st M hk
  unfold KR_both at hk
  split at hk
  · rename_i ht
    subst ht
    split at hk
    · split at hk
      · rename_i hc
        obtain ⟨rfl, rfl⟩ := hc
        exact lR_both_8 _ A C _ _ _ _ _ _ _ hk _
      · cases hk
    · cases hk
  cases hk
theorem wR_both {E : EV} (hsd : E.2.2.2 = 0) (l : Launch) (D : Nat) (hD : 2 ≤ D) (rR_compared : Nat → Int32 → Mem → Option (Int32 × Mem)) (hR_compared : ∀ {β : Type}, DenOK E l D yR_compared prog_6_method_9_code 6 (some .int) true (dR_compared (β := β) rR_compared)) (w0 : Nat) (x1 : Int32) (M : Mem) (q : (Int32 × Mem)) (hq : mR_both rR_compared w0 x1 M = some q) : Con E l (D + 1) yR_both prog_6_method_8_code 5 (some .int) [aR (17, w0, 0), aI x1] M (outI q).1 (outI q).2 := by
  refine con_of iR_both (Nat.le_of_ble_eq_true rfl) ?_
  intro p e s m args below meth c C
  exact lR_both rR_compared (oR_both hsd l D hD rR_compared hR_compared) C w0 x1 M _ hq
/-! ===== FreeLances$Reader.compared(I)I ===== -/
def cR_compared (rR_added : Nat → Int32 → Mem → Option (Int32 × Mem)) : List (Ent (Int32 × Mem)) := [(false, 0, 1, sLdA 0),
  (false, 1, 1, sLdI 1),
  (false, 2, 3, sInv 2 true (dR_added rR_added)),
  (false, 5, 1, sStI 2),
  (false, 6, 1, sLdA 0),
  (false, 7, 3, sInv 1 true dR_sign),
  (false, 10, 1, sStI 3),
  (false, 11, 1, sLdA 0),
  (false, 12, 3, sGet 17 (fun w i M => aI (M 17 w i 7))),
  (false, 15, 3, sIfGe 36),
  (false, 18, 1, sLdI 3),
  (false, 19, 2, sC 60),
  (false, 21, 3, sCmpEq 38),
  (false, 24, 1, sLdI 3),
  (false, 25, 2, sC 61),
  (false, 27, 3, sCmpEq 38),
  (false, 30, 1, sLdI 3),
  (false, 31, 2, sC 62),
  (false, 33, 3, sCmpEq 38),
  (false, 36, 1, sLdI 2),
  (false, 37, 1, sRetI),
  (true, 38, 1, sLdA 0),
  (false, 39, 1, sDup),
  (false, 40, 3, sGet 17 (fun w i M => aI (M 17 w i 6))),
  (false, 43, 1, sC 1),
  (false, 44, 1, sBin (fun x y => x + y)),
  (false, 45, 3, sPut 17 6),
  (false, 48, 1, sLdA 0),
  (false, 49, 1, sLdI 1),
  (false, 50, 3, sInv 2 true (dR_added rR_added)),
  (false, 53, 2, sStI 4),
  (false, 55, 1, sLdI 3),
  (false, 56, 2, sC 60),
  (false, 58, 3, sCmpNe 75),
  (false, 61, 1, sLdI 2),
  (false, 62, 2, sLdI 4),
  (false, 64, 3, sCmpGe 71),
  (false, 67, 1, sC 1),
  (false, 68, 3, sGoto 106),
  (false, 71, 1, sC 0),
  (false, 72, 3, sGoto 106),
  (false, 75, 1, sLdI 3),
  (false, 76, 2, sC 61),
  (false, 78, 3, sCmpNe 95),
  (false, 81, 1, sLdI 2),
  (false, 82, 2, sLdI 4),
  (false, 84, 3, sCmpNe 91),
  (false, 87, 1, sC 1),
  (false, 88, 3, sGoto 106),
  (false, 91, 1, sC 0),
  (false, 92, 3, sGoto 106),
  (false, 95, 1, sLdI 2),
  (false, 96, 2, sLdI 4),
  (false, 98, 3, sCmpLe 105),
  (false, 101, 1, sC 1),
  (false, 102, 3, sGoto 106),
  (false, 105, 1, sC 0),
  (true, 106, 2, sStI 5),
  (false, 108, 2, sLdI 5),
  (false, 110, 3, sIfEq 117),
  (false, 113, 1, sC 1),
  (false, 114, 3, sGoto 118),
  (false, 117, 1, sC 0),
  (false, 118, 1, sRetI)]
theorem oR_compared {E : EV} (hsd : E.2.2.2 = 0) (l : Launch) (D : Nat) (hD : 2 ≤ D) (rR_added : Nat → Int32 → Mem → Option (Int32 × Mem)) (hR_added : ∀ {β : Type}, DenOK E l D yR_added prog_6_method_10_code 6 (some .int) true (dR_added (β := β) rR_added)) : AllOK E l (D + 1) "FreeLances$Reader" prog_6_method_9_code 6 (some .int) outI (cR_compared rR_added) := by
  refine ak (ok_aload_n (k := 0) rfl (by decide +kernel)) ?_
  refine ak (ok_iload_n (k := 1) rfl (by decide +kernel)) ?_
  refine ak (ok_invV (r := 17) hR_added (qR_added rR_added) ck4 kd17 iR_added tw713 tw9 (by omega) tw711 (by decide +kernel)) ?_
  refine ak (ok_istore_n (k := 2) rfl (by decide) (by decide +kernel)) ?_
  refine ak (ok_aload_n (k := 0) rfl (by decide +kernel)) ?_
  refine ak (ok_invV (r := 17) (kR_sign hsd l) qR_sign ck4 kd17 iR_sign tw725 tw12 (by omega) tw723 (by decide +kernel)) ?_
  refine ak (ok_istore_n (k := 3) rfl (by decide) (by decide +kernel)) ?_
  refine ak (ok_aload_n (k := 0) rfl (by decide +kernel)) ?_
  refine ak (ok_get (k := 7) ck4 kd17 (by decide) (fun _ _ _ => rfl) (fun _ _ _ _ _ => trivial) tw149 (by decide +kernel)) ?_
  refine ak (ok_if_ge (off := 21) (by decide) (by decide +kernel)) ?_
  refine ak (ok_iload_n (k := 3) rfl (by decide +kernel)) ?_
  refine ak (ok_bipush (n := 60) (by decide) (by decide +kernel)) ?_
  refine ak (ok_icmp_eq (off := 17) (by decide) (by decide +kernel)) ?_
  refine ak (ok_iload_n (k := 3) rfl (by decide +kernel)) ?_
  refine ak (ok_bipush (n := 61) (by decide) (by decide +kernel)) ?_
  refine ak (ok_icmp_eq (off := 11) (by decide) (by decide +kernel)) ?_
  refine ak (ok_iload_n (k := 3) rfl (by decide +kernel)) ?_
  refine ak (ok_bipush (n := 62) (by decide) (by decide +kernel)) ?_
  refine ak (ok_icmp_eq (off := 5) (by decide) (by decide +kernel)) ?_
  refine ak (ok_iload_n (k := 2) rfl (by decide +kernel)) ?_
  refine ak (ok_ireturn rfl (by decide +kernel)) ?_
  refine ak (ok_aload_n (k := 0) rfl (by decide +kernel)) ?_
  refine ak (ok_dup (by decide +kernel)) ?_
  refine ak (ok_get (k := 6) ck4 kd17 (by decide) (fun _ _ _ => rfl) (fun _ _ _ _ _ => trivial) tw148 (by decide +kernel)) ?_
  refine ak (ok_iconst (n := 1) (by decide) (by decide +kernel)) ?_
  refine ak (ok_iadd (by decide +kernel)) ?_
  refine ak (ok_put (k := 6) ck4 kd17 (by decide) (fun _ _ _ => rfl) rfl rfl (by decide) tw148 (by decide +kernel)) ?_
  refine ak (ok_aload_n (k := 0) rfl (by decide +kernel)) ?_
  refine ak (ok_iload_n (k := 1) rfl (by decide +kernel)) ?_
  refine ak (ok_invV (r := 17) hR_added (qR_added rR_added) ck4 kd17 iR_added tw713 tw9 (by omega) tw711 (by decide +kernel)) ?_
  refine ak (ok_istore (by decide) (by decide +kernel)) ?_
  refine ak (ok_iload_n (k := 3) rfl (by decide +kernel)) ?_
  refine ak (ok_bipush (n := 60) (by decide) (by decide +kernel)) ?_
  refine ak (ok_icmp_ne (off := 17) (by decide) (by decide +kernel)) ?_
  refine ak (ok_iload_n (k := 2) rfl (by decide +kernel)) ?_
  refine ak (ok_iload (by decide +kernel)) ?_
  refine ak (ok_icmp_ge (off := 7) (by decide) (by decide +kernel)) ?_
  refine ak (ok_iconst (n := 1) (by decide) (by decide +kernel)) ?_
  refine ak (ok_goto (off := 38) (by decide) (by decide +kernel)) ?_
  refine ak (ok_iconst (n := 0) (by decide) (by decide +kernel)) ?_
  refine ak (ok_goto (off := 34) (by decide) (by decide +kernel)) ?_
  refine ak (ok_iload_n (k := 3) rfl (by decide +kernel)) ?_
  refine ak (ok_bipush (n := 61) (by decide) (by decide +kernel)) ?_
  refine ak (ok_icmp_ne (off := 17) (by decide) (by decide +kernel)) ?_
  refine ak (ok_iload_n (k := 2) rfl (by decide +kernel)) ?_
  refine ak (ok_iload (by decide +kernel)) ?_
  refine ak (ok_icmp_ne (off := 7) (by decide) (by decide +kernel)) ?_
  refine ak (ok_iconst (n := 1) (by decide) (by decide +kernel)) ?_
  refine ak (ok_goto (off := 18) (by decide) (by decide +kernel)) ?_
  refine ak (ok_iconst (n := 0) (by decide) (by decide +kernel)) ?_
  refine ak (ok_goto (off := 14) (by decide) (by decide +kernel)) ?_
  refine ak (ok_iload_n (k := 2) rfl (by decide +kernel)) ?_
  refine ak (ok_iload (by decide +kernel)) ?_
  refine ak (ok_icmp_le (off := 7) (by decide) (by decide +kernel)) ?_
  refine ak (ok_iconst (n := 1) (by decide) (by decide +kernel)) ?_
  refine ak (ok_goto (off := 4) (by decide) (by decide +kernel)) ?_
  refine ak (ok_iconst (n := 0) (by decide) (by decide +kernel)) ?_
  refine ak (ok_istore (by decide) (by decide +kernel)) ?_
  refine ak (ok_iload (by decide +kernel)) ?_
  refine ak (ok_if_eq (off := 7) (by decide) (by decide +kernel)) ?_
  refine ak (ok_iconst (n := 1) (by decide) (by decide +kernel)) ?_
  refine ak (ok_goto (off := 4) (by decide) (by decide +kernel)) ?_
  refine ak (ok_iconst (n := 0) (by decide) (by decide +kernel)) ?_
  refine ak (ok_ireturn rfl (by decide +kernel)) ?_
  exact trivial
set_option maxRecDepth 1000000 in
theorem eR_compared_106 (rR_added : Nat → Int32 → Mem → Option (Int32 × Mem)) (y0 : Int32) (M : Mem) (u0 u1 u2 u3 u4 u5 : AV) : run (cR_compared rR_added) (fun _ _ _ _ => none) rtI 400 (seek (cR_compared rR_added) 106) [u0, u1, u2, u3, u4, u5] [aI y0] M = mR_compared_106b rR_added y0 M := id rfl
theorem lR_compared_106 {E : EV} {l : Launch} {p : Program} {e : Env} {s : State} {m : MethodId} {args : Array Value} {below : List Frame} {meth : Method} {c : Code} {D : Nat} (rR_added : Nat → Int32 → Mem → Option (Int32 × Mem)) (A : AllOK E l (D + 1) "FreeLances$Reader" prog_6_method_9_code 6 (some .int) outI (cR_compared rR_added)) (C : Cx E p s m args meth c "FreeLances$Reader" prog_6_method_9_code 6 (some .int)) : ∀ (y0 : Int32) (M : Mem) (res : (Int32 × Mem)), mR_compared_106 rR_added y0 M = some res → ∀ (u0 u1 u2 u3 u4 u5 : AV), Wm E p l e (D + 1) s m args below meth c 6 106 [u0, u1, u2, u3, u4, u5] [aI y0] M (outI res).1 (outI res).2 := by
  intro y0 M res h u0 u1 u2 u3 u4 u5
  refine run_at C A rfl hrtI (n := 400) ((eR_compared_106 rR_added y0 M u0 u1 u2 u3 u4 u5).trans h) ?_
  intro t als st M hk; cases hk
def KR_compared_38 (j106 : Int32 → Mem → Option (Int32 × Mem)) : Jm (Int32 × Mem) := fun t als st M =>
  if t = 106 then (match als, st with
  | [_, _, _, _, _, _], [.inl y0] => j106 y0 M
  | _, _ => none) else
  none
set_option maxRecDepth 1000000 in
theorem eR_compared_38 (rR_added : Nat → Int32 → Mem → Option (Int32 × Mem)) (j106 : Int32 → Mem → Option (Int32 × Mem)) (w0 : Nat) (x1 : Int32) (x2 : Int32) (x3 : Int32) (M : Mem) (u4 u5 : AV) : run (cR_compared rR_added) (KR_compared_38 j106) rtI 400 (seek (cR_compared rR_added) 38) [aR (17, w0, 0), aI x1, aI x2, aI x3, u4, u5] [] M = mR_compared_38b rR_added j106 w0 x1 x2 x3 M := id rfl
theorem lR_compared_38 {E : EV} {l : Launch} {p : Program} {e : Env} {s : State} {m : MethodId} {args : Array Value} {below : List Frame} {meth : Method} {c : Code} {D : Nat} (rR_added : Nat → Int32 → Mem → Option (Int32 × Mem)) (A : AllOK E l (D + 1) "FreeLances$Reader" prog_6_method_9_code 6 (some .int) outI (cR_compared rR_added)) (C : Cx E p s m args meth c "FreeLances$Reader" prog_6_method_9_code 6 (some .int)) : ∀ (w0 : Nat) (x1 : Int32) (x2 : Int32) (x3 : Int32) (M : Mem) (res : (Int32 × Mem)), mR_compared_38 rR_added w0 x1 x2 x3 M = some res → ∀ (u4 u5 : AV), Wm E p l e (D + 1) s m args below meth c 6 38 [aR (17, w0, 0), aI x1, aI x2, aI x3, u4, u5] [] M (outI res).1 (outI res).2 := by
  intro w0 x1 x2 x3 M res h u4 u5
  refine run_at C A rfl hrtI (n := 400) ((eR_compared_38 rR_added (mR_compared_106 rR_added) w0 x1 x2 x3 M u4 u5).trans h) ?_
  intro t als st M hk
  unfold KR_compared_38 at hk
  split at hk
  · rename_i ht
    subst ht
    split at hk
    · exact lR_compared_106 _ A C _ _ _ hk _ _ _ _ _ _
    · cases hk
  cases hk
def KR_compared (j38 : Nat → Int32 → Int32 → Int32 → Mem → Option (Int32 × Mem)) : Jm (Int32 × Mem) := fun t als st M =>
  if t = 38 then (match als, st with
  | [.inr (.inr (.inl (al0, w0, cl0))), .inl x1, .inl x2, .inl x3, _, _], [] => if al0 = 17 ∧ cl0 = 0 then j38 w0 x1 x2 x3 M else none
  | _, _ => none) else
  none
set_option maxRecDepth 1000000 in
theorem eR_compared (rR_added : Nat → Int32 → Mem → Option (Int32 × Mem)) (j38 : Nat → Int32 → Int32 → Int32 → Mem → Option (Int32 × Mem)) (w0 : Nat) (x1 : Int32) (M : Mem) : run (cR_compared rR_added) (KR_compared j38) rtI 400 (seek (cR_compared rR_added) 0) [aR (17, w0, 0), aI x1, aU, aU, aU, aU] [] M = mR_comparedb rR_added j38 w0 x1 M := id rfl
theorem lR_compared {E : EV} {l : Launch} {p : Program} {e : Env} {s : State} {m : MethodId} {args : Array Value} {below : List Frame} {meth : Method} {c : Code} {D : Nat} (rR_added : Nat → Int32 → Mem → Option (Int32 × Mem)) (A : AllOK E l (D + 1) "FreeLances$Reader" prog_6_method_9_code 6 (some .int) outI (cR_compared rR_added)) (C : Cx E p s m args meth c "FreeLances$Reader" prog_6_method_9_code 6 (some .int)) : ∀ (w0 : Nat) (x1 : Int32) (M : Mem) (res : (Int32 × Mem)), mR_compared rR_added w0 x1 M = some res → Wm E p l e (D + 1) s m args below meth c 6 0 [aR (17, w0, 0), aI x1, aU, aU, aU, aU] [] M (outI res).1 (outI res).2 := by
  intro w0 x1 M res h
  refine run_at C A rfl hrtI (n := 400) ((eR_compared rR_added (mR_compared_38 rR_added) w0 x1 M).trans h) ?_
  intro t als st M hk
  unfold KR_compared at hk
  split at hk
  · rename_i ht
    subst ht
    split at hk
    · split at hk
      · rename_i hc
        obtain ⟨rfl, rfl⟩ := hc
        exact lR_compared_38 _ A C _ _ _ _ _ _ hk _ _
      · cases hk
    · cases hk
  cases hk
theorem wR_compared {E : EV} (hsd : E.2.2.2 = 0) (l : Launch) (D : Nat) (hD : 2 ≤ D) (rR_added : Nat → Int32 → Mem → Option (Int32 × Mem)) (hR_added : ∀ {β : Type}, DenOK E l D yR_added prog_6_method_10_code 6 (some .int) true (dR_added (β := β) rR_added)) (w0 : Nat) (x1 : Int32) (M : Mem) (q : (Int32 × Mem)) (hq : mR_compared rR_added w0 x1 M = some q) : Con E l (D + 1) yR_compared prog_6_method_9_code 6 (some .int) [aR (17, w0, 0), aI x1] M (outI q).1 (outI q).2 := by
  refine con_of iR_compared (Nat.le_of_ble_eq_true rfl) ?_
  intro p e s m args below meth c C
  exact lR_compared rR_added (oR_compared hsd l D hD rR_added hR_added) C w0 x1 M _ hq
/-! ===== FreeLances$Reader.added(I)I ===== -/
def cR_added (rR_multiplied : Nat → Int32 → Mem → Option (Int32 × Mem)) : List (Ent (Int32 × Mem)) := [(false, 0, 1, sLdA 0),
  (false, 1, 1, sLdI 1),
  (false, 2, 3, sInv 2 true (dR_multiplied rR_multiplied)),
  (false, 5, 1, sStI 2),
  (false, 6, 1, sC 0),
  (false, 7, 1, sStI 3),
  (true, 8, 1, sLdI 3),
  (false, 9, 2, sC 50),
  (false, 11, 3, sCmpGe 81),
  (false, 14, 1, sLdA 0),
  (false, 15, 2, sC 43),
  (false, 17, 2, sC 45),
  (false, 19, 3, sInv 3 true dR_goesOnWith),
  (false, 22, 3, sIfEq 81),
  (false, 25, 1, sLdA 0),
  (false, 26, 3, sInv 1 true dR_sign),
  (false, 29, 2, sC 43),
  (false, 31, 3, sCmpNe 38),
  (false, 34, 1, sC 1),
  (false, 35, 3, sGoto 39),
  (false, 38, 1, sC 0),
  (false, 39, 2, sStI 4),
  (false, 41, 1, sLdA 0),
  (false, 42, 1, sDup),
  (false, 43, 3, sGet 17 (fun w i M => aI (M 17 w i 6))),
  (false, 46, 1, sC 1),
  (false, 47, 1, sBin (fun x y => x + y)),
  (false, 48, 3, sPut 17 6),
  (false, 51, 1, sLdA 0),
  (false, 52, 1, sLdI 1),
  (false, 53, 3, sInv 2 true (dR_multiplied rR_multiplied)),
  (false, 56, 2, sStI 5),
  (false, 58, 2, sLdI 4),
  (false, 60, 3, sIfEq 70),
  (false, 63, 1, sLdI 2),
  (false, 64, 2, sLdI 5),
  (false, 66, 1, sBin (fun x y => x + y)),
  (false, 67, 3, sGoto 74),
  (false, 70, 1, sLdI 2),
  (false, 71, 2, sLdI 5),
  (false, 73, 1, sBin (fun x y => x - y)),
  (false, 74, 1, sStI 2),
  (false, 75, 3, sInc 3 1),
  (false, 78, 3, sGoto 8),
  (false, 81, 1, sLdI 2),
  (false, 82, 1, sRetI)]
theorem oR_added {E : EV} (hsd : E.2.2.2 = 0) (l : Launch) (D : Nat) (hD : 2 ≤ D) (rR_multiplied : Nat → Int32 → Mem → Option (Int32 × Mem)) (hR_multiplied : ∀ {β : Type}, DenOK E l D yR_multiplied prog_6_method_11_code 6 (some .int) true (dR_multiplied (β := β) rR_multiplied)) : AllOK E l (D + 1) "FreeLances$Reader" prog_6_method_10_code 6 (some .int) outI (cR_added rR_multiplied) := by
  refine ak (ok_aload_n (k := 0) rfl (by decide +kernel)) ?_
  refine ak (ok_iload_n (k := 1) rfl (by decide +kernel)) ?_
  refine ak (ok_invV (r := 17) hR_multiplied (qR_multiplied rR_multiplied) ck4 kd17 iR_multiplied tw717 tw10 (by omega) tw715 (by decide +kernel)) ?_
  refine ak (ok_istore_n (k := 2) rfl (by decide) (by decide +kernel)) ?_
  refine ak (ok_iconst (n := 0) (by decide) (by decide +kernel)) ?_
  refine ak (ok_istore_n (k := 3) rfl (by decide) (by decide +kernel)) ?_
  refine ak (ok_iload_n (k := 3) rfl (by decide +kernel)) ?_
  refine ak (ok_bipush (n := 50) (by decide) (by decide +kernel)) ?_
  refine ak (ok_icmp_ge (off := 70) (by decide) (by decide +kernel)) ?_
  refine ak (ok_aload_n (k := 0) rfl (by decide +kernel)) ?_
  refine ak (ok_bipush (n := 43) (by decide) (by decide +kernel)) ?_
  refine ak (ok_bipush (n := 45) (by decide) (by decide +kernel)) ?_
  refine ak (ok_invV (r := 17) (kR_goesOnWith hsd l) qR_goesOnWith ck4 kd17 iR_goesOnWith tw741 tw16 (by omega) tw739 (by decide +kernel)) ?_
  refine ak (ok_if_eq (off := 59) (by decide) (by decide +kernel)) ?_
  refine ak (ok_aload_n (k := 0) rfl (by decide +kernel)) ?_
  refine ak (ok_invV (r := 17) (kR_sign hsd l) qR_sign ck4 kd17 iR_sign tw725 tw12 (by omega) tw723 (by decide +kernel)) ?_
  refine ak (ok_bipush (n := 43) (by decide) (by decide +kernel)) ?_
  refine ak (ok_icmp_ne (off := 7) (by decide) (by decide +kernel)) ?_
  refine ak (ok_iconst (n := 1) (by decide) (by decide +kernel)) ?_
  refine ak (ok_goto (off := 4) (by decide) (by decide +kernel)) ?_
  refine ak (ok_iconst (n := 0) (by decide) (by decide +kernel)) ?_
  refine ak (ok_istore (by decide) (by decide +kernel)) ?_
  refine ak (ok_aload_n (k := 0) rfl (by decide +kernel)) ?_
  refine ak (ok_dup (by decide +kernel)) ?_
  refine ak (ok_get (k := 6) ck4 kd17 (by decide) (fun _ _ _ => rfl) (fun _ _ _ _ _ => trivial) tw148 (by decide +kernel)) ?_
  refine ak (ok_iconst (n := 1) (by decide) (by decide +kernel)) ?_
  refine ak (ok_iadd (by decide +kernel)) ?_
  refine ak (ok_put (k := 6) ck4 kd17 (by decide) (fun _ _ _ => rfl) rfl rfl (by decide) tw148 (by decide +kernel)) ?_
  refine ak (ok_aload_n (k := 0) rfl (by decide +kernel)) ?_
  refine ak (ok_iload_n (k := 1) rfl (by decide +kernel)) ?_
  refine ak (ok_invV (r := 17) hR_multiplied (qR_multiplied rR_multiplied) ck4 kd17 iR_multiplied tw717 tw10 (by omega) tw715 (by decide +kernel)) ?_
  refine ak (ok_istore (by decide) (by decide +kernel)) ?_
  refine ak (ok_iload (by decide +kernel)) ?_
  refine ak (ok_if_eq (off := 10) (by decide) (by decide +kernel)) ?_
  refine ak (ok_iload_n (k := 2) rfl (by decide +kernel)) ?_
  refine ak (ok_iload (by decide +kernel)) ?_
  refine ak (ok_iadd (by decide +kernel)) ?_
  refine ak (ok_goto (off := 7) (by decide) (by decide +kernel)) ?_
  refine ak (ok_iload_n (k := 2) rfl (by decide +kernel)) ?_
  refine ak (ok_iload (by decide +kernel)) ?_
  refine ak (ok_isub (by decide +kernel)) ?_
  refine ak (ok_istore_n (k := 2) rfl (by decide) (by decide +kernel)) ?_
  refine ak (ok_iinc (n := 1) (by decide) (by decide) (by decide +kernel)) ?_
  refine ak (ok_goto (off := (-70)) (by decide) (by decide +kernel)) ?_
  refine ak (ok_iload_n (k := 2) rfl (by decide +kernel)) ?_
  refine ak (ok_ireturn rfl (by decide +kernel)) ?_
  exact trivial
def KR_added_8 (j8 : Nat → Int32 → Int32 → Int32 → Mem → Option (Int32 × Mem)) : Jm (Int32 × Mem) := fun t als st M =>
  if t = 8 then (match als, st with
  | [.inr (.inr (.inl (al0, w0, cl0))), .inl x1, .inl x2, .inl x3, _, _], [] => if al0 = 17 ∧ cl0 = 0 then j8 w0 x1 x2 x3 M else none
  | _, _ => none) else
  none
set_option maxRecDepth 1000000 in
theorem eR_added_8 (rR_multiplied : Nat → Int32 → Mem → Option (Int32 × Mem)) (j8 : Nat → Int32 → Int32 → Int32 → Mem → Option (Int32 × Mem)) (w0 : Nat) (x1 : Int32) (x2 : Int32) (x3 : Int32) (M : Mem) (u4 u5 : AV) : run (cR_added rR_multiplied) (KR_added_8 j8) rtI 400 (seek (cR_added rR_multiplied) 8) [aR (17, w0, 0), aI x1, aI x2, aI x3, u4, u5] [] M = mR_added_8b rR_multiplied j8 w0 x1 x2 x3 M := id rfl
theorem lR_added_8 {E : EV} {l : Launch} {p : Program} {e : Env} {s : State} {m : MethodId} {args : Array Value} {below : List Frame} {meth : Method} {c : Code} {D : Nat} (rR_multiplied : Nat → Int32 → Mem → Option (Int32 × Mem)) (A : AllOK E l (D + 1) "FreeLances$Reader" prog_6_method_10_code 6 (some .int) outI (cR_added rR_multiplied)) (C : Cx E p s m args meth c "FreeLances$Reader" prog_6_method_10_code 6 (some .int)) : ∀ (n : Nat), ∀ (w0 : Nat) (x1 : Int32) (x2 : Int32) (x3 : Int32) (M : Mem) (res : (Int32 × Mem)), mR_added_8 rR_multiplied n w0 x1 x2 x3 M = some res → ∀ (u4 u5 : AV), Wm E p l e (D + 1) s m args below meth c 6 8 [aR (17, w0, 0), aI x1, aI x2, aI x3, u4, u5] [] M (outI res).1 (outI res).2 := by
  intro n
  induction n with
  | zero => intro _ _ _ _ M res h; cases h
  | succ n ih =>
    intro w0 x1 x2 x3 M res h u4 u5
    refine run_at C A rfl hrtI (n := 400) ((eR_added_8 rR_multiplied (mR_added_8 rR_multiplied n) w0 x1 x2 x3 M u4 u5).trans h) ?_
    intro t als st M hk
    unfold KR_added_8 at hk
    split at hk
    · rename_i ht
      subst ht
      split at hk
      · split at hk
        · rename_i hc
          obtain ⟨rfl, rfl⟩ := hc
          exact ih _ _ _ _ _ _ hk _ _
        · cases hk
      · cases hk
    cases hk
def KR_added (j8 : Nat → Int32 → Int32 → Int32 → Mem → Option (Int32 × Mem)) : Jm (Int32 × Mem) := fun t als st M =>
  if t = 8 then (match als, st with
  | [.inr (.inr (.inl (al0, w0, cl0))), .inl x1, .inl x2, .inl x3, _, _], [] => if al0 = 17 ∧ cl0 = 0 then j8 w0 x1 x2 x3 M else none
  | _, _ => none) else
  none
set_option maxRecDepth 1000000 in
theorem eR_added (rR_multiplied : Nat → Int32 → Mem → Option (Int32 × Mem)) (j8 : Nat → Int32 → Int32 → Int32 → Mem → Option (Int32 × Mem)) (w0 : Nat) (x1 : Int32) (M : Mem) : run (cR_added rR_multiplied) (KR_added j8) rtI 400 (seek (cR_added rR_multiplied) 0) [aR (17, w0, 0), aI x1, aU, aU, aU, aU] [] M = mR_addedb rR_multiplied j8 w0 x1 M := id rfl
theorem lR_added {E : EV} {l : Launch} {p : Program} {e : Env} {s : State} {m : MethodId} {args : Array Value} {below : List Frame} {meth : Method} {c : Code} {D : Nat} (rR_multiplied : Nat → Int32 → Mem → Option (Int32 × Mem)) (A : AllOK E l (D + 1) "FreeLances$Reader" prog_6_method_10_code 6 (some .int) outI (cR_added rR_multiplied)) (C : Cx E p s m args meth c "FreeLances$Reader" prog_6_method_10_code 6 (some .int)) : ∀ (w0 : Nat) (x1 : Int32) (M : Mem) (res : (Int32 × Mem)), mR_added rR_multiplied w0 x1 M = some res → Wm E p l e (D + 1) s m args below meth c 6 0 [aR (17, w0, 0), aI x1, aU, aU, aU, aU] [] M (outI res).1 (outI res).2 := by
  intro w0 x1 M res h
  refine run_at C A rfl hrtI (n := 400) ((eR_added rR_multiplied (mR_added_8 rR_multiplied fuel) w0 x1 M).trans h) ?_
  intro t als st M hk
  unfold KR_added at hk
  split at hk
  · rename_i ht
    subst ht
    split at hk
    · split at hk
      · rename_i hc
        obtain ⟨rfl, rfl⟩ := hc
        exact lR_added_8 _ A C _ _ _ _ _ _ _ hk _ _
      · cases hk
    · cases hk
  cases hk
theorem wR_added {E : EV} (hsd : E.2.2.2 = 0) (l : Launch) (D : Nat) (hD : 2 ≤ D) (rR_multiplied : Nat → Int32 → Mem → Option (Int32 × Mem)) (hR_multiplied : ∀ {β : Type}, DenOK E l D yR_multiplied prog_6_method_11_code 6 (some .int) true (dR_multiplied (β := β) rR_multiplied)) (w0 : Nat) (x1 : Int32) (M : Mem) (q : (Int32 × Mem)) (hq : mR_added rR_multiplied w0 x1 M = some q) : Con E l (D + 1) yR_added prog_6_method_10_code 6 (some .int) [aR (17, w0, 0), aI x1] M (outI q).1 (outI q).2 := by
  refine con_of iR_added (Nat.le_of_ble_eq_true rfl) ?_
  intro p e s m args below meth c C
  exact lR_added rR_multiplied (oR_added hsd l D hD rR_multiplied hR_multiplied) C w0 x1 M _ hq
/-! ===== FreeLances$Reader.multiplied(I)I ===== -/
def cR_multiplied (rR_single : Nat → Int32 → Mem → Option (Int32 × Mem)) : List (Ent (Int32 × Mem)) := [(false, 0, 1, sLdA 0),
  (false, 1, 1, sLdI 1),
  (false, 2, 3, sInv 2 true (dR_single rR_single)),
  (false, 5, 1, sStI 2),
  (false, 6, 1, sC 0),
  (false, 7, 1, sStI 3),
  (true, 8, 1, sLdI 3),
  (false, 9, 2, sC 50),
  (false, 11, 3, sCmpGe 90),
  (false, 14, 1, sLdA 0),
  (false, 15, 2, sC 42),
  (false, 17, 2, sC 47),
  (false, 19, 3, sInv 3 true dR_goesOnWith),
  (false, 22, 3, sIfEq 90),
  (false, 25, 1, sLdA 0),
  (false, 26, 3, sInv 1 true dR_sign),
  (false, 29, 2, sC 42),
  (false, 31, 3, sCmpNe 38),
  (false, 34, 1, sC 1),
  (false, 35, 3, sGoto 39),
  (false, 38, 1, sC 0),
  (true, 39, 2, sStI 4),
  (false, 41, 1, sLdA 0),
  (false, 42, 1, sDup),
  (false, 43, 3, sGet 17 (fun w i M => aI (M 17 w i 6))),
  (false, 46, 1, sC 1),
  (false, 47, 1, sBin (fun x y => x + y)),
  (false, 48, 3, sPut 17 6),
  (false, 51, 1, sLdA 0),
  (false, 52, 1, sLdI 1),
  (false, 53, 3, sInv 2 true (dR_single rR_single)),
  (false, 56, 2, sStI 5),
  (false, 58, 2, sLdI 4),
  (false, 60, 3, sIfEq 70),
  (false, 63, 1, sLdI 2),
  (false, 64, 2, sLdI 5),
  (false, 66, 1, sBin (fun x y => x * y)),
  (false, 67, 3, sGoto 83),
  (false, 70, 2, sLdI 5),
  (false, 72, 3, sIfNe 79),
  (false, 75, 1, sC 0),
  (false, 76, 3, sGoto 83),
  (false, 79, 1, sLdI 2),
  (false, 80, 2, sLdI 5),
  (false, 82, 1, sBin0 (fun x y => x / y)),
  (false, 83, 1, sStI 2),
  (false, 84, 3, sInc 3 1),
  (false, 87, 3, sGoto 8),
  (false, 90, 1, sLdI 2),
  (false, 91, 1, sRetI)]
theorem oR_multiplied {E : EV} (hsd : E.2.2.2 = 0) (l : Launch) (D : Nat) (hD : 2 ≤ D) (rR_single : Nat → Int32 → Mem → Option (Int32 × Mem)) (hR_single : ∀ {β : Type}, DenOK E l D yR_single prog_6_method_12_code 4 (some .int) true (dR_single (β := β) rR_single)) : AllOK E l (D + 1) "FreeLances$Reader" prog_6_method_11_code 6 (some .int) outI (cR_multiplied rR_single) := by
  refine ak (ok_aload_n (k := 0) rfl (by decide +kernel)) ?_
  refine ak (ok_iload_n (k := 1) rfl (by decide +kernel)) ?_
  refine ak (ok_invV (r := 17) hR_single (qR_single rR_single) ck4 kd17 iR_single tw721 tw11 (by omega) tw719 (by decide +kernel)) ?_
  refine ak (ok_istore_n (k := 2) rfl (by decide) (by decide +kernel)) ?_
  refine ak (ok_iconst (n := 0) (by decide) (by decide +kernel)) ?_
  refine ak (ok_istore_n (k := 3) rfl (by decide) (by decide +kernel)) ?_
  refine ak (ok_iload_n (k := 3) rfl (by decide +kernel)) ?_
  refine ak (ok_bipush (n := 50) (by decide) (by decide +kernel)) ?_
  refine ak (ok_icmp_ge (off := 79) (by decide) (by decide +kernel)) ?_
  refine ak (ok_aload_n (k := 0) rfl (by decide +kernel)) ?_
  refine ak (ok_bipush (n := 42) (by decide) (by decide +kernel)) ?_
  refine ak (ok_bipush (n := 47) (by decide) (by decide +kernel)) ?_
  refine ak (ok_invV (r := 17) (kR_goesOnWith hsd l) qR_goesOnWith ck4 kd17 iR_goesOnWith tw741 tw16 (by omega) tw739 (by decide +kernel)) ?_
  refine ak (ok_if_eq (off := 68) (by decide) (by decide +kernel)) ?_
  refine ak (ok_aload_n (k := 0) rfl (by decide +kernel)) ?_
  refine ak (ok_invV (r := 17) (kR_sign hsd l) qR_sign ck4 kd17 iR_sign tw725 tw12 (by omega) tw723 (by decide +kernel)) ?_
  refine ak (ok_bipush (n := 42) (by decide) (by decide +kernel)) ?_
  refine ak (ok_icmp_ne (off := 7) (by decide) (by decide +kernel)) ?_
  refine ak (ok_iconst (n := 1) (by decide) (by decide +kernel)) ?_
  refine ak (ok_goto (off := 4) (by decide) (by decide +kernel)) ?_
  refine ak (ok_iconst (n := 0) (by decide) (by decide +kernel)) ?_
  refine ak (ok_istore (by decide) (by decide +kernel)) ?_
  refine ak (ok_aload_n (k := 0) rfl (by decide +kernel)) ?_
  refine ak (ok_dup (by decide +kernel)) ?_
  refine ak (ok_get (k := 6) ck4 kd17 (by decide) (fun _ _ _ => rfl) (fun _ _ _ _ _ => trivial) tw148 (by decide +kernel)) ?_
  refine ak (ok_iconst (n := 1) (by decide) (by decide +kernel)) ?_
  refine ak (ok_iadd (by decide +kernel)) ?_
  refine ak (ok_put (k := 6) ck4 kd17 (by decide) (fun _ _ _ => rfl) rfl rfl (by decide) tw148 (by decide +kernel)) ?_
  refine ak (ok_aload_n (k := 0) rfl (by decide +kernel)) ?_
  refine ak (ok_iload_n (k := 1) rfl (by decide +kernel)) ?_
  refine ak (ok_invV (r := 17) hR_single (qR_single rR_single) ck4 kd17 iR_single tw721 tw11 (by omega) tw719 (by decide +kernel)) ?_
  refine ak (ok_istore (by decide) (by decide +kernel)) ?_
  refine ak (ok_iload (by decide +kernel)) ?_
  refine ak (ok_if_eq (off := 10) (by decide) (by decide +kernel)) ?_
  refine ak (ok_iload_n (k := 2) rfl (by decide +kernel)) ?_
  refine ak (ok_iload (by decide +kernel)) ?_
  refine ak (ok_imul (by decide +kernel)) ?_
  refine ak (ok_goto (off := 16) (by decide) (by decide +kernel)) ?_
  refine ak (ok_iload (by decide +kernel)) ?_
  refine ak (ok_if_ne (off := 7) (by decide) (by decide +kernel)) ?_
  refine ak (ok_iconst (n := 0) (by decide) (by decide +kernel)) ?_
  refine ak (ok_goto (off := 7) (by decide) (by decide +kernel)) ?_
  refine ak (ok_iload_n (k := 2) rfl (by decide +kernel)) ?_
  refine ak (ok_iload (by decide +kernel)) ?_
  refine ak (ok_idiv (by decide +kernel)) ?_
  refine ak (ok_istore_n (k := 2) rfl (by decide) (by decide +kernel)) ?_
  refine ak (ok_iinc (n := 1) (by decide) (by decide) (by decide +kernel)) ?_
  refine ak (ok_goto (off := (-79)) (by decide) (by decide +kernel)) ?_
  refine ak (ok_iload_n (k := 2) rfl (by decide +kernel)) ?_
  refine ak (ok_ireturn rfl (by decide +kernel)) ?_
  exact trivial
def KR_multiplied_39 (j8 : Nat → Int32 → Int32 → Int32 → Mem → Option (Int32 × Mem)) : Jm (Int32 × Mem) := fun t als st M =>
  if t = 8 then (match als, st with
  | [.inr (.inr (.inl (al0, w0, cl0))), .inl x1, .inl x2, .inl x3, _, _], [] => if al0 = 17 ∧ cl0 = 0 then j8 w0 x1 x2 x3 M else none
  | _, _ => none) else
  none
set_option maxRecDepth 1000000 in
theorem eR_multiplied_39 (rR_single : Nat → Int32 → Mem → Option (Int32 × Mem)) (j8 : Nat → Int32 → Int32 → Int32 → Mem → Option (Int32 × Mem)) (w0 : Nat) (x1 : Int32) (x2 : Int32) (x3 : Int32) (y0 : Int32) (M : Mem) (u4 u5 : AV) : run (cR_multiplied rR_single) (KR_multiplied_39 j8) rtI 400 (seek (cR_multiplied rR_single) 39) [aR (17, w0, 0), aI x1, aI x2, aI x3, u4, u5] [aI y0] M = mR_multiplied_39b rR_single j8 w0 x1 x2 x3 y0 M := id rfl
theorem lR_multiplied_39 {E : EV} {l : Launch} {p : Program} {e : Env} {s : State} {m : MethodId} {args : Array Value} {below : List Frame} {meth : Method} {c : Code} {D : Nat} (rR_single : Nat → Int32 → Mem → Option (Int32 × Mem)) (A : AllOK E l (D + 1) "FreeLances$Reader" prog_6_method_11_code 6 (some .int) outI (cR_multiplied rR_single)) (C : Cx E p s m args meth c "FreeLances$Reader" prog_6_method_11_code 6 (some .int)) {r8 : Nat → Int32 → Int32 → Int32 → Mem → Option (Int32 × Mem)} (H8 : ∀ (w0 : Nat) (x1 : Int32) (x2 : Int32) (x3 : Int32) (M : Mem) (res : (Int32 × Mem)), r8 w0 x1 x2 x3 M = some res → ∀ (u4 u5 : AV), Wm E p l e (D + 1) s m args below meth c 6 8 [aR (17, w0, 0), aI x1, aI x2, aI x3, u4, u5] [] M (outI res).1 (outI res).2) : ∀ (w0 : Nat) (x1 : Int32) (x2 : Int32) (x3 : Int32) (y0 : Int32) (M : Mem) (res : (Int32 × Mem)), mR_multiplied_39 rR_single r8 w0 x1 x2 x3 y0 M = some res → ∀ (u4 u5 : AV), Wm E p l e (D + 1) s m args below meth c 6 39 [aR (17, w0, 0), aI x1, aI x2, aI x3, u4, u5] [aI y0] M (outI res).1 (outI res).2 := by
  intro w0 x1 x2 x3 y0 M res h u4 u5
  refine run_at C A rfl hrtI (n := 400) ((eR_multiplied_39 rR_single r8 w0 x1 x2 x3 y0 M u4 u5).trans h) ?_
  intro t als st M hk
  unfold KR_multiplied_39 at hk
  split at hk
  · rename_i ht
    subst ht
    split at hk
    · split at hk
      · rename_i hc
        obtain ⟨rfl, rfl⟩ := hc
        exact H8 _ _ _ _ _ _ hk _ _
      · cases hk
    · cases hk
  cases hk
def KR_multiplied_8 (j39 : Nat → Int32 → Int32 → Int32 → Int32 → Mem → Option (Int32 × Mem)) : Jm (Int32 × Mem) := fun t als st M =>
  if t = 39 then (match als, st with
  | [.inr (.inr (.inl (al0, w0, cl0))), .inl x1, .inl x2, .inl x3, _, _], [.inl y0] => if al0 = 17 ∧ cl0 = 0 then j39 w0 x1 x2 x3 y0 M else none
  | _, _ => none) else
  none
set_option maxRecDepth 1000000 in
theorem eR_multiplied_8 (rR_single : Nat → Int32 → Mem → Option (Int32 × Mem)) (j39 : Nat → Int32 → Int32 → Int32 → Int32 → Mem → Option (Int32 × Mem)) (w0 : Nat) (x1 : Int32) (x2 : Int32) (x3 : Int32) (M : Mem) (u4 u5 : AV) : run (cR_multiplied rR_single) (KR_multiplied_8 j39) rtI 400 (seek (cR_multiplied rR_single) 8) [aR (17, w0, 0), aI x1, aI x2, aI x3, u4, u5] [] M = mR_multiplied_8b rR_single j39 w0 x1 x2 x3 M := id rfl
theorem lR_multiplied_8 {E : EV} {l : Launch} {p : Program} {e : Env} {s : State} {m : MethodId} {args : Array Value} {below : List Frame} {meth : Method} {c : Code} {D : Nat} (rR_single : Nat → Int32 → Mem → Option (Int32 × Mem)) (A : AllOK E l (D + 1) "FreeLances$Reader" prog_6_method_11_code 6 (some .int) outI (cR_multiplied rR_single)) (C : Cx E p s m args meth c "FreeLances$Reader" prog_6_method_11_code 6 (some .int)) : ∀ (n : Nat), ∀ (w0 : Nat) (x1 : Int32) (x2 : Int32) (x3 : Int32) (M : Mem) (res : (Int32 × Mem)), mR_multiplied_8 rR_single n w0 x1 x2 x3 M = some res → ∀ (u4 u5 : AV), Wm E p l e (D + 1) s m args below meth c 6 8 [aR (17, w0, 0), aI x1, aI x2, aI x3, u4, u5] [] M (outI res).1 (outI res).2 := by
  intro n
  induction n with
  | zero => intro _ _ _ _ M res h; cases h
  | succ n ih =>
    intro w0 x1 x2 x3 M res h u4 u5
    refine run_at C A rfl hrtI (n := 400) ((eR_multiplied_8 rR_single (mR_multiplied_39 rR_single (mR_multiplied_8 rR_single n)) w0 x1 x2 x3 M u4 u5).trans h) ?_
    intro t als st M hk
    unfold KR_multiplied_8 at hk
    split at hk
    · rename_i ht
      subst ht
      split at hk
      · split at hk
        · rename_i hc
          obtain ⟨rfl, rfl⟩ := hc
          exact lR_multiplied_39 _ A C ih _ _ _ _ _ _ _ hk _ _
        · cases hk
      · cases hk
    cases hk
def KR_multiplied (j8 : Nat → Int32 → Int32 → Int32 → Mem → Option (Int32 × Mem)) : Jm (Int32 × Mem) := fun t als st M =>
  if t = 8 then (match als, st with
  | [.inr (.inr (.inl (al0, w0, cl0))), .inl x1, .inl x2, .inl x3, _, _], [] => if al0 = 17 ∧ cl0 = 0 then j8 w0 x1 x2 x3 M else none
  | _, _ => none) else
  none
set_option maxRecDepth 1000000 in
theorem eR_multiplied (rR_single : Nat → Int32 → Mem → Option (Int32 × Mem)) (j8 : Nat → Int32 → Int32 → Int32 → Mem → Option (Int32 × Mem)) (w0 : Nat) (x1 : Int32) (M : Mem) : run (cR_multiplied rR_single) (KR_multiplied j8) rtI 400 (seek (cR_multiplied rR_single) 0) [aR (17, w0, 0), aI x1, aU, aU, aU, aU] [] M = mR_multipliedb rR_single j8 w0 x1 M := id rfl
theorem lR_multiplied {E : EV} {l : Launch} {p : Program} {e : Env} {s : State} {m : MethodId} {args : Array Value} {below : List Frame} {meth : Method} {c : Code} {D : Nat} (rR_single : Nat → Int32 → Mem → Option (Int32 × Mem)) (A : AllOK E l (D + 1) "FreeLances$Reader" prog_6_method_11_code 6 (some .int) outI (cR_multiplied rR_single)) (C : Cx E p s m args meth c "FreeLances$Reader" prog_6_method_11_code 6 (some .int)) : ∀ (w0 : Nat) (x1 : Int32) (M : Mem) (res : (Int32 × Mem)), mR_multiplied rR_single w0 x1 M = some res → Wm E p l e (D + 1) s m args below meth c 6 0 [aR (17, w0, 0), aI x1, aU, aU, aU, aU] [] M (outI res).1 (outI res).2 := by
  intro w0 x1 M res h
  refine run_at C A rfl hrtI (n := 400) ((eR_multiplied rR_single (mR_multiplied_8 rR_single fuel) w0 x1 M).trans h) ?_
  intro t als st M hk
  unfold KR_multiplied at hk
  split at hk
  · rename_i ht
    subst ht
    split at hk
    · split at hk
      · rename_i hc
        obtain ⟨rfl, rfl⟩ := hc
        exact lR_multiplied_8 _ A C _ _ _ _ _ _ _ hk _ _
      · cases hk
    · cases hk
  cases hk
theorem wR_multiplied {E : EV} (hsd : E.2.2.2 = 0) (l : Launch) (D : Nat) (hD : 2 ≤ D) (rR_single : Nat → Int32 → Mem → Option (Int32 × Mem)) (hR_single : ∀ {β : Type}, DenOK E l D yR_single prog_6_method_12_code 4 (some .int) true (dR_single (β := β) rR_single)) (w0 : Nat) (x1 : Int32) (M : Mem) (q : (Int32 × Mem)) (hq : mR_multiplied rR_single w0 x1 M = some q) : Con E l (D + 1) yR_multiplied prog_6_method_11_code 6 (some .int) [aR (17, w0, 0), aI x1] M (outI q).1 (outI q).2 := by
  refine con_of iR_multiplied (Nat.le_of_ble_eq_true rfl) ?_
  intro p e s m args below meth c C
  exact lR_multiplied rR_single (oR_multiplied hsd l D hD rR_single hR_single) C w0 x1 M _ hq
