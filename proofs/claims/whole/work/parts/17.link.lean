/-! ===== FreeLances$World.letsGo(LFreeLances$Bond;)Z ===== -/
abbrev yW_letsGo : MethodName := ⟨"FreeLances$World", "letsGo", "(LFreeLances$Bond;)Z"⟩
theorem iW_letsGo : MI yW_letsGo prog_11_method_19_code 4 (some .boolean) 1 := ⟨tw685, tw98, ⟨by decide, by decide⟩, by decide +kernel, by decide, by decide⟩
def cW_letsGo : List (Ent (Int32 × Mem)) := [(false, 0, 1, sLdA 0),
  (false, 1, 3, sGet 1 (fun w i M => aI (M 1 w i 0))),
  (false, 4, 1, sLdA 1),
  (false, 5, 3, sGet 15 (fun w i M => aI (M 15 w i 9))),
  (false, 8, 1, sBin (fun x y => x - y)),
  (false, 9, 1, sStI 2),
  (false, 10, 1, sLdA 0),
  (false, 11, 1, sC 2),
  (false, 12, 1, sLdA 0),
  (false, 13, 3, sGet 1 (fun w i M => aI (M 1 w i 0))),
  (false, 16, 3, sInv 3 true dW_inForce),
  (false, 19, 1, sStI 3),
  (false, 20, 1, sLdI 3),
  (false, 21, 3, sIfGe 38),
  (false, 24, 1, sLdI 2),
  (false, 25, 2, sC 60),
  (false, 27, 3, sCmpLe 34),
  (false, 30, 1, sC 1),
  (false, 31, 3, sGoto 65),
  (false, 34, 1, sC 0),
  (false, 35, 3, sGoto 65),
  (false, 38, 1, sLdA 0),
  (false, 39, 3, sGet 1 (fun w i M => aR (17, w, 0))),
  (false, 42, 1, sLdA 0),
  (false, 43, 3, sGet 1 (fun w i M => aR (11, w, 0))),
  (false, 46, 1, sLdI 3),
  (false, 47, 1, sAald 11 12 12),
  (false, 48, 1, sLdI 2),
  (false, 49, 1, sLdA 1),
  (false, 50, 3, sGet 15 (fun w i M => aI (M 15 w i 8))),
  (false, 53, 1, sC 0),
  (false, 54, 3, sInv 5 true dR_workOut),
  (false, 57, 3, sIfEq 64),
  (false, 60, 1, sC 1),
  (false, 61, 3, sGoto 65),
  (false, 64, 1, sC 0),
  (false, 65, 1, sRetZ)]
theorem oW_letsGo {E : EV} (hsd : E.2.2.2 = 0) (l : Launch) : AllOK E l 64 "FreeLances$World" prog_11_method_19_code 4 (some .boolean) outI (cW_letsGo) := by
  refine ak (ok_aload_n (k := 0) rfl (by decide +kernel)) ?_
  refine ak (ok_get (k := 0) ck9 kd1 (by decide) (fun _ _ _ => rfl) (fun _ _ _ _ _ => trivial) tw386 (by decide +kernel)) ?_
  refine ak (ok_aload_n (k := 1) rfl (by decide +kernel)) ?_
  refine ak (ok_get (k := 9) ck0 kd15 (by decide) (fun _ _ _ => rfl) (fun _ _ _ _ _ => trivial) tw352 (by decide +kernel)) ?_
  refine ak (ok_isub (by decide +kernel)) ?_
  refine ak (ok_istore_n (k := 2) rfl (by decide) (by decide +kernel)) ?_
  refine ak (ok_aload_n (k := 0) rfl (by decide +kernel)) ?_
  refine ak (ok_iconst (n := 2) (by decide) (by decide +kernel)) ?_
  refine ak (ok_aload_n (k := 0) rfl (by decide +kernel)) ?_
  refine ak (ok_get (k := 0) ck9 kd1 (by decide) (fun _ _ _ => rfl) (fun _ _ _ _ _ => trivial) tw386 (by decide +kernel)) ?_
  refine ak (ok_invV (r := 1) (kW_inForce hsd l) qW_inForce ck9 kd1 iW_inForce tw687 tw688 (by decide) tw686 (by decide +kernel)) ?_
  refine ak (ok_istore_n (k := 3) rfl (by decide) (by decide +kernel)) ?_
  refine ak (ok_iload_n (k := 3) rfl (by decide +kernel)) ?_
  refine ak (ok_if_ge (off := 17) (by decide) (by decide +kernel)) ?_
  refine ak (ok_iload_n (k := 2) rfl (by decide +kernel)) ?_
  refine ak (ok_bipush (n := 60) (by decide) (by decide +kernel)) ?_
  refine ak (ok_icmp_le (off := 7) (by decide) (by decide +kernel)) ?_
  refine ak (ok_iconst (n := 1) (by decide) (by decide +kernel)) ?_
  refine ak (ok_goto (off := 34) (by decide) (by decide +kernel)) ?_
  refine ak (ok_iconst (n := 0) (by decide) (by decide +kernel)) ?_
  refine ak (ok_goto (off := 30) (by decide) (by decide +kernel)) ?_
  refine ak (ok_aload_n (k := 0) rfl (by decide +kernel)) ?_
  refine ak (ok_get (k := 17) ck9 kd1 (by decide) (fun _ _ _ => rfl) (vf_1_17 hsd) tw422 (by decide +kernel)) ?_
  refine ak (ok_aload_n (k := 0) rfl (by decide +kernel)) ?_
  refine ak (ok_get (k := 9) ck9 kd1 (by decide) (fun _ _ _ => rfl) (vf_1_9 hsd) tw406 (by decide +kernel)) ?_
  refine ak (ok_iload_n (k := 3) rfl (by decide +kernel)) ?_
  refine ak (ok_aald (t0 := 5) (C := RX6) kd11 (by decide) rfl (vr_11 hsd) (by decide +kernel)) ?_
  refine ak (ok_iload_n (k := 2) rfl (by decide +kernel)) ?_
  refine ak (ok_aload_n (k := 1) rfl (by decide +kernel)) ?_
  refine ak (ok_get (k := 8) ck0 kd15 (by decide) (fun _ _ _ => rfl) (fun _ _ _ _ _ => trivial) tw349 (by decide +kernel)) ?_
  refine ak (ok_iconst (n := 0) (by decide) (by decide +kernel)) ?_
  refine ak (ok_invV (r := 17) (kR_workOut hsd l) qR_workOut ck4 kd17 iR_workOut tw691 tw692 (by decide) tw690 (by decide +kernel)) ?_
  refine ak (ok_if_eq (off := 7) (by decide) (by decide +kernel)) ?_
  refine ak (ok_iconst (n := 1) (by decide) (by decide +kernel)) ?_
  refine ak (ok_goto (off := 4) (by decide) (by decide +kernel)) ?_
  refine ak (ok_iconst (n := 0) (by decide) (by decide +kernel)) ?_
  refine ak (ok_zreturn rfl (by decide +kernel)) ?_
  exact trivial
set_option maxRecDepth 1000000 in
theorem eW_letsGo (w0 : Nat) (w1 : Nat) (i1 : Nat) (M : Mem) : run (cW_letsGo) (fun _ _ _ _ => none) rtI 400 (seek (cW_letsGo) 0) [aR (1, w0, 0), aR (15, w1, i1), aU, aU] [] M = mW_letsGo w0 w1 i1 M := id rfl
theorem lW_letsGo {E : EV} {l : Launch} {p : Program} {e : Env} {s : State} {m : MethodId} {args : Array Value} {below : List Frame} {meth : Method} {c : Code} (A : AllOK E l 64 "FreeLances$World" prog_11_method_19_code 4 (some .boolean) outI (cW_letsGo)) (C : Cx E p s m args meth c "FreeLances$World" prog_11_method_19_code 4 (some .boolean)) : ∀ (w0 : Nat) (w1 : Nat) (i1 : Nat) (M : Mem) (res : (Int32 × Mem)), mW_letsGo w0 w1 i1 M = some res → Wm E p l e 64 s m args below meth c 4 0 [aR (1, w0, 0), aR (15, w1, i1), aU, aU] [] M (outI res).1 (outI res).2 := by
  intro w0 w1 i1 M res h
  refine run_at C A rfl hrtI (n := 400) ((eW_letsGo w0 w1 i1 M).trans h) ?_
  intro t als st M hk; cases hk
def dW_letsGo {β : Type} : Den β := fun as M k => match as with
  | [.inr (.inr (.inl (al0, w0, cl0))), .inr (.inr (.inl (al1, w1, i1)))] => if al0 = 1 ∧ cl0 = 0 ∧ al1 = 15 then (mW_letsGo w0 w1 i1 M).bind fun q => k (aI q.1) q.2 else none
  | _ => none
theorem wW_letsGo {E : EV} (hsd : E.2.2.2 = 0) (l : Launch) (w0 : Nat) (w1 : Nat) (i1 : Nat) (M : Mem) (q : (Int32 × Mem)) (hq : mW_letsGo w0 w1 i1 M = some q) : Con E l 64 yW_letsGo prog_11_method_19_code 4 (some .boolean) [aR (1, w0, 0), aR (15, w1, i1)] M (outI q).1 (outI q).2 := by
  refine con_of iW_letsGo (Nat.le_of_ble_eq_true rfl) ?_
  intro p e s m args below meth c C
  exact lW_letsGo (oW_letsGo hsd l) C w0 w1 i1 M _ hq
theorem kW_letsGo {E : EV} (hsd : E.2.2.2 = 0) (l : Launch) {β : Type} : DenOK E l 64 yW_letsGo prog_11_method_19_code 4 (some .boolean) true (dW_letsGo (β := β)) := by
  intro as M k res h
  unfold dW_letsGo at h
  split at h
  ·
    split at h
    · rename_i hc
      obtain ⟨rfl, rfl, rfl⟩ := hc
      obtain ⟨q, hq, hk⟩ := Option.bind_eq_some_iff.mp h
      exact ⟨aI q.1, q.2, hk, rfl, wW_letsGo hsd l _ _ _ M q hq⟩
    · cases h
  · cases h
theorem qW_letsGo {β : Type} : RecOK 1 (dW_letsGo (β := β)) := by
  intro as M k res h
  unfold dW_letsGo at h
  split at h
  ·
    split at h
    · rename_i hc
      obtain ⟨rfl, rfl, rfl⟩ := hc
      exact ⟨_, _, _, rfl⟩
    · cases h
  · cases h
/-! ===== FreeLances$World.mayGo(I)Z ===== -/
abbrev yW_mayGo : MethodName := ⟨"FreeLances$World", "mayGo", "(I)Z"⟩
theorem iW_mayGo : MI yW_mayGo prog_11_method_18_code 3 (some .boolean) 1 := ⟨tw680, tw98, ⟨by decide, by decide⟩, by decide +kernel, by decide, by decide⟩
def cW_mayGo : List (Ent (Int32 × Mem)) := [(false, 0, 1, sLdA 0),
  (false, 1, 1, sLdI 1),
  (false, 2, 1, sLdA 0),
  (false, 3, 3, sGet 1 (fun w i M => aI (M 1 w i 0))),
  (false, 6, 3, sInv 3 true dW_served),
  (false, 9, 3, sIfGe 14),
  (false, 12, 1, sC 1),
  (false, 13, 1, sRetZ),
  (false, 14, 1, sC 0),
  (false, 15, 1, sStI 2),
  (true, 16, 1, sLdI 2),
  (false, 17, 1, sLdA 0),
  (false, 18, 3, sGet 1 (fun w i M => aI (M 1 w i 12))),
  (false, 21, 3, sCmpGe 70),
  (false, 24, 1, sLdA 0),
  (false, 25, 3, sGet 1 (fun w i M => aR (14, w, 0))),
  (false, 28, 1, sLdI 2),
  (false, 29, 1, sAald 14 24 15),
  (false, 30, 1, sLdI 1),
  (false, 31, 3, sInv 2 true dB_isContractOf),
  (false, 34, 3, sIfEq 64),
  (false, 37, 1, sLdA 0),
  (false, 38, 3, sGet 1 (fun w i M => aR (14, w, 0))),
  (false, 41, 1, sLdI 2),
  (false, 42, 1, sAald 14 24 15),
  (false, 43, 3, sGet 15 (fun w i M => aI (M 15 w i 8))),
  (false, 46, 3, sIfLe 64),
  (false, 49, 1, sLdA 0),
  (false, 50, 1, sLdA 0),
  (false, 51, 3, sGet 1 (fun w i M => aR (14, w, 0))),
  (false, 54, 1, sLdI 2),
  (false, 55, 1, sAald 14 24 15),
  (false, 56, 3, sInv 2 true dW_letsGo),
  (false, 59, 3, sIfEq 64),
  (false, 62, 1, sC 1),
  (false, 63, 1, sRetZ),
  (false, 64, 3, sInc 2 1),
  (false, 67, 3, sGoto 16),
  (false, 70, 1, sC 0),
  (false, 71, 1, sRetZ)]
theorem oW_mayGo {E : EV} (hsd : E.2.2.2 = 0) (l : Launch) : AllOK E l 65 "FreeLances$World" prog_11_method_18_code 3 (some .boolean) outI (cW_mayGo) := by
  refine ak (ok_aload_n (k := 0) rfl (by decide +kernel)) ?_
  refine ak (ok_iload_n (k := 1) rfl (by decide +kernel)) ?_
  refine ak (ok_aload_n (k := 0) rfl (by decide +kernel)) ?_
  refine ak (ok_get (k := 0) ck9 kd1 (by decide) (fun _ _ _ => rfl) (fun _ _ _ _ _ => trivial) tw386 (by decide +kernel)) ?_
  refine ak (ok_invV (r := 1) (kW_served hsd l) qW_served ck9 kd1 iW_served tw635 tw636 (by decide) tw681 (by decide +kernel)) ?_
  refine ak (ok_if_ge (off := 5) (by decide) (by decide +kernel)) ?_
  refine ak (ok_iconst (n := 1) (by decide) (by decide +kernel)) ?_
  refine ak (ok_zreturn rfl (by decide +kernel)) ?_
  refine ak (ok_iconst (n := 0) (by decide) (by decide +kernel)) ?_
  refine ak (ok_istore_n (k := 2) rfl (by decide) (by decide +kernel)) ?_
  refine ak (ok_iload_n (k := 2) rfl (by decide +kernel)) ?_
  refine ak (ok_aload_n (k := 0) rfl (by decide +kernel)) ?_
  refine ak (ok_get (k := 12) ck9 kd1 (by decide) (fun _ _ _ => rfl) (fun _ _ _ _ _ => trivial) tw412 (by decide +kernel)) ?_
  refine ak (ok_icmp_ge (off := 49) (by decide) (by decide +kernel)) ?_
  refine ak (ok_aload_n (k := 0) rfl (by decide +kernel)) ?_
  refine ak (ok_get (k := 11) ck9 kd1 (by decide) (fun _ _ _ => rfl) (vf_1_11 hsd) tw410 (by decide +kernel)) ?_
  refine ak (ok_iload_n (k := 2) rfl (by decide +kernel)) ?_
  refine ak (ok_aald (t0 := 6) (C := RX0) kd14 (by decide) rfl (vr_14 hsd) (by decide +kernel)) ?_
  refine ak (ok_iload_n (k := 1) rfl (by decide +kernel)) ?_
  refine ak (ok_invV (r := 15) (kB_isContractOf hsd l) qB_isContractOf ck0 kd15 iB_isContractOf tw639 tw640 (by decide) tw638 (by decide +kernel)) ?_
  refine ak (ok_if_eq (off := 30) (by decide) (by decide +kernel)) ?_
  refine ak (ok_aload_n (k := 0) rfl (by decide +kernel)) ?_
  refine ak (ok_get (k := 11) ck9 kd1 (by decide) (fun _ _ _ => rfl) (vf_1_11 hsd) tw410 (by decide +kernel)) ?_
  refine ak (ok_iload_n (k := 2) rfl (by decide +kernel)) ?_
  refine ak (ok_aald (t0 := 6) (C := RX0) kd14 (by decide) rfl (vr_14 hsd) (by decide +kernel)) ?_
  refine ak (ok_get (k := 8) ck0 kd15 (by decide) (fun _ _ _ => rfl) (fun _ _ _ _ _ => trivial) tw349 (by decide +kernel)) ?_
  refine ak (ok_if_le (off := 18) (by decide) (by decide +kernel)) ?_
  refine ak (ok_aload_n (k := 0) rfl (by decide +kernel)) ?_
  refine ak (ok_aload_n (k := 0) rfl (by decide +kernel)) ?_
  refine ak (ok_get (k := 11) ck9 kd1 (by decide) (fun _ _ _ => rfl) (vf_1_11 hsd) tw410 (by decide +kernel)) ?_
  refine ak (ok_iload_n (k := 2) rfl (by decide +kernel)) ?_
  refine ak (ok_aald (t0 := 6) (C := RX0) kd14 (by decide) rfl (vr_14 hsd) (by decide +kernel)) ?_
  refine ak (ok_invV (r := 1) (kW_letsGo hsd l) qW_letsGo ck9 kd1 iW_letsGo tw684 tw4 (by decide) tw682 (by decide +kernel)) ?_
  refine ak (ok_if_eq (off := 5) (by decide) (by decide +kernel)) ?_
  refine ak (ok_iconst (n := 1) (by decide) (by decide +kernel)) ?_
  refine ak (ok_zreturn rfl (by decide +kernel)) ?_
  refine ak (ok_iinc (n := 1) (by decide) (by decide) (by decide +kernel)) ?_
  refine ak (ok_goto (off := (-51)) (by decide) (by decide +kernel)) ?_
  refine ak (ok_iconst (n := 0) (by decide) (by decide +kernel)) ?_
  refine ak (ok_zreturn rfl (by decide +kernel)) ?_
  exact trivial
def KW_mayGo_16 (j16 : Nat → Int32 → Int32 → Mem → Option (Int32 × Mem)) : Jm (Int32 × Mem) := fun t als st M =>
  if t = 16 then (match als, st with
  | [.inr (.inr (.inl (al0, w0, cl0))), .inl x1, .inl x2], [] => if al0 = 1 ∧ cl0 = 0 then j16 w0 x1 x2 M else none
  | _, _ => none) else
  none
set_option maxRecDepth 1000000 in
theorem eW_mayGo_16 (j16 : Nat → Int32 → Int32 → Mem → Option (Int32 × Mem)) (w0 : Nat) (x1 : Int32) (x2 : Int32) (M : Mem) : run (cW_mayGo) (KW_mayGo_16 j16) rtI 400 (seek (cW_mayGo) 16) [aR (1, w0, 0), aI x1, aI x2] [] M = mW_mayGo_16b j16 w0 x1 x2 M := id rfl
theorem lW_mayGo_16 {E : EV} {l : Launch} {p : Program} {e : Env} {s : State} {m : MethodId} {args : Array Value} {below : List Frame} {meth : Method} {c : Code} (A : AllOK E l 65 "FreeLances$World" prog_11_method_18_code 3 (some .boolean) outI (cW_mayGo)) (C : Cx E p s m args meth c "FreeLances$World" prog_11_method_18_code 3 (some .boolean)) : ∀ (n : Nat), ∀ (w0 : Nat) (x1 : Int32) (x2 : Int32) (M : Mem) (res : (Int32 × Mem)), mW_mayGo_16 n w0 x1 x2 M = some res → Wm E p l e 65 s m args below meth c 3 16 [aR (1, w0, 0), aI x1, aI x2] [] M (outI res).1 (outI res).2 := by
  intro n
  induction n with
  | zero => intro _ _ _ M res h; cases h
  | succ n ih =>
    intro w0 x1 x2 M res h
    refine run_at C A rfl hrtI (n := 400) ((eW_mayGo_16 (mW_mayGo_16 n) w0 x1 x2 M).trans h) ?_
    intro t als st M hk
    unfold KW_mayGo_16 at hk
    split at hk
    · rename_i ht
      subst ht
      split at hk
      · split at hk
        · rename_i hc
          obtain ⟨rfl, rfl⟩ := hc
          exact ih _ _ _ _ _ hk
        · cases hk
      · cases hk
    cases hk
def KW_mayGo (j16 : Nat → Int32 → Int32 → Mem → Option (Int32 × Mem)) : Jm (Int32 × Mem) := fun t als st M =>
  if t = 16 then (match als, st with
  | [.inr (.inr (.inl (al0, w0, cl0))), .inl x1, .inl x2], [] => if al0 = 1 ∧ cl0 = 0 then j16 w0 x1 x2 M else none
  | _, _ => none) else
  none
set_option maxRecDepth 1000000 in
theorem eW_mayGo (j16 : Nat → Int32 → Int32 → Mem → Option (Int32 × Mem)) (w0 : Nat) (x1 : Int32) (M : Mem) : run (cW_mayGo) (KW_mayGo j16) rtI 400 (seek (cW_mayGo) 0) [aR (1, w0, 0), aI x1, aU] [] M = mW_mayGob j16 w0 x1 M := id rfl
theorem lW_mayGo {E : EV} {l : Launch} {p : Program} {e : Env} {s : State} {m : MethodId} {args : Array Value} {below : List Frame} {meth : Method} {c : Code} (A : AllOK E l 65 "FreeLances$World" prog_11_method_18_code 3 (some .boolean) outI (cW_mayGo)) (C : Cx E p s m args meth c "FreeLances$World" prog_11_method_18_code 3 (some .boolean)) : ∀ (w0 : Nat) (x1 : Int32) (M : Mem) (res : (Int32 × Mem)), mW_mayGo w0 x1 M = some res → Wm E p l e 65 s m args below meth c 3 0 [aR (1, w0, 0), aI x1, aU] [] M (outI res).1 (outI res).2 := by
  intro w0 x1 M res h
  refine run_at C A rfl hrtI (n := 400) ((eW_mayGo (mW_mayGo_16 fuel) w0 x1 M).trans h) ?_
  intro t als st M hk
  unfold KW_mayGo at hk
  split at hk
  · rename_i ht
    subst ht
    split at hk
    · split at hk
      · rename_i hc
        obtain ⟨rfl, rfl⟩ := hc
        exact lW_mayGo_16 A C _ _ _ _ _ _ hk
      · cases hk
    · cases hk
  cases hk
def dW_mayGo {β : Type} : Den β := fun as M k => match as with
  | [.inr (.inr (.inl (al0, w0, cl0))), .inl x1] => if al0 = 1 ∧ cl0 = 0 then (mW_mayGo w0 x1 M).bind fun q => k (aI q.1) q.2 else none
  | _ => none
theorem wW_mayGo {E : EV} (hsd : E.2.2.2 = 0) (l : Launch) (w0 : Nat) (x1 : Int32) (M : Mem) (q : (Int32 × Mem)) (hq : mW_mayGo w0 x1 M = some q) : Con E l 65 yW_mayGo prog_11_method_18_code 3 (some .boolean) [aR (1, w0, 0), aI x1] M (outI q).1 (outI q).2 := by
  refine con_of iW_mayGo (Nat.le_of_ble_eq_true rfl) ?_
  intro p e s m args below meth c C
  exact lW_mayGo (oW_mayGo hsd l) C w0 x1 M _ hq
theorem kW_mayGo {E : EV} (hsd : E.2.2.2 = 0) (l : Launch) {β : Type} : DenOK E l 65 yW_mayGo prog_11_method_18_code 3 (some .boolean) true (dW_mayGo (β := β)) := by
  intro as M k res h
  unfold dW_mayGo at h
  split at h
  ·
    split at h
    · rename_i hc
      obtain ⟨rfl, rfl⟩ := hc
      obtain ⟨q, hq, hk⟩ := Option.bind_eq_some_iff.mp h
      exact ⟨aI q.1, q.2, hk, rfl, wW_mayGo hsd l _ _ M q hq⟩
    · cases h
  · cases h
theorem qW_mayGo {β : Type} : RecOK 1 (dW_mayGo (β := β)) := by
  intro as M k res h
  unfold dW_mayGo at h
  split at h
  ·
    split at h
    · rename_i hc
      obtain ⟨rfl, rfl⟩ := hc
      exact ⟨_, _, _, rfl⟩
    · cases h
  · cases h
/-! ===== FreeLances$World.together(II)Z ===== -/
abbrev yW_together : MethodName := ⟨"FreeLances$World", "together", "(II)Z"⟩
theorem iW_together : MI yW_together prog_11_method_6_code 3 (some .boolean) 2 := ⟨tw746, tw98, ⟨by decide, by decide⟩, by decide +kernel, by decide, by decide⟩
def cW_together : List (Ent (Int32 × Mem)) := [(false, 0, 1, sLdA 0),
  (false, 1, 3, sGet 1 (fun w i M => aR (5, w, 0))),
  (false, 4, 1, sLdI 1),
  (false, 5, 1, sAald 5 5 6),
  (false, 6, 3, sInv 1 true dC_marches),
  (false, 9, 3, sIfNe 37),
  (false, 12, 1, sLdA 0),
  (false, 13, 3, sGet 1 (fun w i M => aR (5, w, 0))),
  (false, 16, 1, sLdI 1),
  (false, 17, 1, sAald 5 5 6),
  (false, 18, 3, sGet 6 (fun w i M => aI (M 6 w i 3))),
  (false, 21, 1, sLdA 0),
  (false, 22, 3, sGet 1 (fun w i M => aR (5, w, 0))),
  (false, 25, 1, sLdI 2),
  (false, 26, 1, sAald 5 5 6),
  (false, 27, 3, sGet 6 (fun w i M => aI (M 6 w i 3))),
  (false, 30, 3, sCmpNe 37),
  (false, 33, 1, sC 1),
  (false, 34, 3, sGoto 38),
  (false, 37, 1, sC 0),
  (false, 38, 1, sRetZ)]
theorem oW_together {E : EV} (hsd : E.2.2.2 = 0) (l : Launch) : AllOK E l 2 "FreeLances$World" prog_11_method_6_code 3 (some .boolean) outI (cW_together) := by
  refine ak (ok_aload_n (k := 0) rfl (by decide +kernel)) ?_
  refine ak (ok_get (k := 5) ck9 kd1 (by decide) (fun _ _ _ => rfl) (vf_1_5 hsd) tw396 (by decide +kernel)) ?_
  refine ak (ok_iload_n (k := 1) rfl (by decide +kernel)) ?_
  refine ak (ok_aald (t0 := 3) (C := RX1) kd5 (by decide) rfl (vr_5 hsd) (by decide +kernel)) ?_
  refine ak (ok_invV (r := 6) (kC_marches hsd l) qC_marches ck1 kd6 iC_marches tw623 tw624 (by decide) tw747 (by decide +kernel)) ?_
  refine ak (ok_if_ne (off := 28) (by decide) (by decide +kernel)) ?_
  refine ak (ok_aload_n (k := 0) rfl (by decide +kernel)) ?_
  refine ak (ok_get (k := 5) ck9 kd1 (by decide) (fun _ _ _ => rfl) (vf_1_5 hsd) tw396 (by decide +kernel)) ?_
  refine ak (ok_iload_n (k := 1) rfl (by decide +kernel)) ?_
  refine ak (ok_aald (t0 := 3) (C := RX1) kd5 (by decide) rfl (vr_5 hsd) (by decide +kernel)) ?_
  refine ak (ok_get (k := 3) ck1 kd6 (by decide) (fun _ _ _ => rfl) (fun _ _ _ _ _ => trivial) tw208 (by decide +kernel)) ?_
  refine ak (ok_aload_n (k := 0) rfl (by decide +kernel)) ?_
  refine ak (ok_get (k := 5) ck9 kd1 (by decide) (fun _ _ _ => rfl) (vf_1_5 hsd) tw396 (by decide +kernel)) ?_
  refine ak (ok_iload_n (k := 2) rfl (by decide +kernel)) ?_
  refine ak (ok_aald (t0 := 3) (C := RX1) kd5 (by decide) rfl (vr_5 hsd) (by decide +kernel)) ?_
  refine ak (ok_get (k := 3) ck1 kd6 (by decide) (fun _ _ _ => rfl) (fun _ _ _ _ _ => trivial) tw208 (by decide +kernel)) ?_
  refine ak (ok_icmp_ne (off := 7) (by decide) (by decide +kernel)) ?_
  refine ak (ok_iconst (n := 1) (by decide) (by decide +kernel)) ?_
  refine ak (ok_goto (off := 4) (by decide) (by decide +kernel)) ?_
  refine ak (ok_iconst (n := 0) (by decide) (by decide +kernel)) ?_
  refine ak (ok_zreturn rfl (by decide +kernel)) ?_
  exact trivial
set_option maxRecDepth 1000000 in
theorem eW_together (w0 : Nat) (x1 : Int32) (x2 : Int32) (M : Mem) : run (cW_together) (fun _ _ _ _ => none) rtI 400 (seek (cW_together) 0) [aR (1, w0, 0), aI x1, aI x2] [] M = mW_together w0 x1 x2 M := id rfl
theorem lW_together {E : EV} {l : Launch} {p : Program} {e : Env} {s : State} {m : MethodId} {args : Array Value} {below : List Frame} {meth : Method} {c : Code} (A : AllOK E l 2 "FreeLances$World" prog_11_method_6_code 3 (some .boolean) outI (cW_together)) (C : Cx E p s m args meth c "FreeLances$World" prog_11_method_6_code 3 (some .boolean)) : ∀ (w0 : Nat) (x1 : Int32) (x2 : Int32) (M : Mem) (res : (Int32 × Mem)), mW_together w0 x1 x2 M = some res → Wm E p l e 2 s m args below meth c 3 0 [aR (1, w0, 0), aI x1, aI x2] [] M (outI res).1 (outI res).2 := by
  intro w0 x1 x2 M res h
  refine run_at C A rfl hrtI (n := 400) ((eW_together w0 x1 x2 M).trans h) ?_
  intro t als st M hk; cases hk
def dW_together {β : Type} : Den β := fun as M k => match as with
  | [.inr (.inr (.inl (al0, w0, cl0))), .inl x1, .inl x2] => if al0 = 1 ∧ cl0 = 0 then (mW_together w0 x1 x2 M).bind fun q => k (aI q.1) q.2 else none
  | _ => none
theorem wW_together {E : EV} (hsd : E.2.2.2 = 0) (l : Launch) (w0 : Nat) (x1 : Int32) (x2 : Int32) (M : Mem) (q : (Int32 × Mem)) (hq : mW_together w0 x1 x2 M = some q) : Con E l 2 yW_together prog_11_method_6_code 3 (some .boolean) [aR (1, w0, 0), aI x1, aI x2] M (outI q).1 (outI q).2 := by
  refine con_of iW_together (Nat.le_of_ble_eq_true rfl) ?_
  intro p e s m args below meth c C
  exact lW_together (oW_together hsd l) C w0 x1 x2 M _ hq
theorem kW_together {E : EV} (hsd : E.2.2.2 = 0) (l : Launch) {β : Type} : DenOK E l 2 yW_together prog_11_method_6_code 3 (some .boolean) true (dW_together (β := β)) := by
  intro as M k res h
  unfold dW_together at h
  split at h
  ·
    split at h
    · rename_i hc
      obtain ⟨rfl, rfl⟩ := hc
      obtain ⟨q, hq, hk⟩ := Option.bind_eq_some_iff.mp h
      exact ⟨aI q.1, q.2, hk, rfl, wW_together hsd l _ _ _ M q hq⟩
    · cases h
  · cases h
theorem qW_together {β : Type} : RecOK 1 (dW_together (β := β)) := by
  intro as M k res h
  unfold dW_together at h
  split at h
  ·
    split at h
    · rename_i hc
      obtain ⟨rfl, rfl⟩ := hc
      exact ⟨_, _, _, rfl⟩
    · cases h
  · cases h
/-! ===== FreeLances$Company.part(I)V ===== -/
abbrev yC_part : MethodName := ⟨"FreeLances$Company", "part", "(I)V"⟩
theorem iC_part : MI yC_part prog_3_method_6_code 2 none 1 := ⟨tw751, tw101, ⟨by decide, by decide⟩, by decide +kernel, by decide, by decide⟩
def cC_part : List (Ent Mem) := [(false, 0, 1, sLdA 0),
  (false, 1, 1, sDup),
  (false, 2, 3, sGet 6 (fun w i M => aI (M 6 w i 6))),
  (false, 5, 1, sLdI 1),
  (false, 6, 3, sIfNe 13),
  (false, 9, 1, sC 1),
  (false, 10, 3, sGoto 14),
  (false, 13, 1, sC 0),
  (false, 14, 1, sBin (fun x y => x - y)),
  (false, 15, 3, sPut 6 6),
  (false, 18, 1, sLdA 0),
  (false, 19, 1, sDup),
  (false, 20, 3, sGet 6 (fun w i M => aI (M 6 w i 7))),
  (false, 23, 1, sLdI 1),
  (false, 24, 1, sC 1),
  (false, 25, 3, sCmpNe 32),
  (false, 28, 1, sC 1),
  (false, 29, 3, sGoto 33),
  (false, 32, 1, sC 0),
  (false, 33, 1, sBin (fun x y => x - y)),
  (false, 34, 3, sPut 6 7),
  (false, 37, 1, sRetV)]
theorem oC_part {E : EV} (hsd : E.2.2.2 = 0) (l : Launch) : AllOK E l 1 "FreeLances$Company" prog_3_method_6_code 2 none outV (cC_part) := by
  refine ak (ok_aload_n (k := 0) rfl (by decide +kernel)) ?_
  refine ak (ok_dup (by decide +kernel)) ?_
  refine ak (ok_get (k := 6) ck1 kd6 (by decide) (fun _ _ _ => rfl) (fun _ _ _ _ _ => trivial) tw214 (by decide +kernel)) ?_
  refine ak (ok_iload_n (k := 1) rfl (by decide +kernel)) ?_
  refine ak (ok_if_ne (off := 7) (by decide) (by decide +kernel)) ?_
  refine ak (ok_iconst (n := 1) (by decide) (by decide +kernel)) ?_
  refine ak (ok_goto (off := 4) (by decide) (by decide +kernel)) ?_
  refine ak (ok_iconst (n := 0) (by decide) (by decide +kernel)) ?_
  refine ak (ok_isub (by decide +kernel)) ?_
  refine ak (ok_put (k := 6) ck1 kd6 (by decide) (fun _ _ _ => rfl) rfl rfl (by decide) tw214 (by decide +kernel)) ?_
  refine ak (ok_aload_n (k := 0) rfl (by decide +kernel)) ?_
  refine ak (ok_dup (by decide +kernel)) ?_
  refine ak (ok_get (k := 7) ck1 kd6 (by decide) (fun _ _ _ => rfl) (fun _ _ _ _ _ => trivial) tw218 (by decide +kernel)) ?_
  refine ak (ok_iload_n (k := 1) rfl (by decide +kernel)) ?_
  refine ak (ok_iconst (n := 1) (by decide) (by decide +kernel)) ?_
  refine ak (ok_icmp_ne (off := 7) (by decide) (by decide +kernel)) ?_
  refine ak (ok_iconst (n := 1) (by decide) (by decide +kernel)) ?_
  refine ak (ok_goto (off := 4) (by decide) (by decide +kernel)) ?_
  refine ak (ok_iconst (n := 0) (by decide) (by decide +kernel)) ?_
  refine ak (ok_isub (by decide +kernel)) ?_
  refine ak (ok_put (k := 7) ck1 kd6 (by decide) (fun _ _ _ => rfl) rfl rfl (by decide) tw218 (by decide +kernel)) ?_
  refine ak (ok_return rfl (by decide +kernel)) ?_
  exact trivial
set_option maxRecDepth 1000000 in
theorem eC_part (w0 : Nat) (i0 : Nat) (x1 : Int32) (M : Mem) : run (cC_part) (fun _ _ _ _ => none) rtV 400 (seek (cC_part) 0) [aR (6, w0, i0), aI x1] [] M = mC_part w0 i0 x1 M := id rfl
theorem lC_part {E : EV} {l : Launch} {p : Program} {e : Env} {s : State} {m : MethodId} {args : Array Value} {below : List Frame} {meth : Method} {c : Code} (A : AllOK E l 1 "FreeLances$Company" prog_3_method_6_code 2 none outV (cC_part)) (C : Cx E p s m args meth c "FreeLances$Company" prog_3_method_6_code 2 none) : ∀ (w0 : Nat) (i0 : Nat) (x1 : Int32) (M : Mem) (res : Mem), mC_part w0 i0 x1 M = some res → Wm E p l e 1 s m args below meth c 2 0 [aR (6, w0, i0), aI x1] [] M (outV res).1 (outV res).2 := by
  intro w0 i0 x1 M res h
  refine run_at C A rfl hrtV (n := 400) ((eC_part w0 i0 x1 M).trans h) ?_
  intro t als st M hk; cases hk
def dC_part {β : Type} : Den β := fun as M k => match as with
  | [.inr (.inr (.inl (al0, w0, i0))), .inl x1] => if al0 = 6 then (mC_part w0 i0 x1 M).bind fun q => k aU q else none
  | _ => none
theorem wC_part {E : EV} (hsd : E.2.2.2 = 0) (l : Launch) (w0 : Nat) (i0 : Nat) (x1 : Int32) (M : Mem) (q : Mem) (hq : mC_part w0 i0 x1 M = some q) : Con E l 1 yC_part prog_3_method_6_code 2 none [aR (6, w0, i0), aI x1] M (outV q).1 (outV q).2 := by
  refine con_of iC_part (Nat.le_of_ble_eq_true rfl) ?_
  intro p e s m args below meth c C
  exact lC_part (oC_part hsd l) C w0 i0 x1 M _ hq
theorem kC_part {E : EV} (hsd : E.2.2.2 = 0) (l : Launch) {β : Type} : DenOK E l 1 yC_part prog_3_method_6_code 2 none false (dC_part (β := β)) := by
  intro as M k res h
  unfold dC_part at h
  split at h
  ·
    split at h
    · rename_i hc
      obtain rfl := hc
      obtain ⟨q, hq, hk⟩ := Option.bind_eq_some_iff.mp h
      exact ⟨aU, q, hk, rfl, wC_part hsd l _ _ _ M q hq⟩
    · cases h
  · cases h
theorem qC_part {β : Type} : RecOK 6 (dC_part (β := β)) := by
  intro as M k res h
  unfold dC_part at h
  split at h
  ·
    split at h
    · rename_i hc
      obtain rfl := hc
      exact ⟨_, _, _, rfl⟩
    · cases h
  · cases h
/-! ===== FreeLances$Company.join(I)V ===== -/
abbrev yC_join : MethodName := ⟨"FreeLances$Company", "join", "(I)V"⟩
theorem iC_join : MI yC_join prog_3_method_5_code 2 none 1 := ⟨tw755, tw101, ⟨by decide, by decide⟩, by decide +kernel, by decide, by decide⟩
def cC_join : List (Ent Mem) := [(false, 0, 1, sLdA 0),
  (false, 1, 1, sDup),
  (false, 2, 3, sGet 6 (fun w i M => aI (M 6 w i 6))),
  (false, 5, 1, sLdI 1),
  (false, 6, 3, sIfNe 13),
  (false, 9, 1, sC 1),
  (false, 10, 3, sGoto 14),
  (false, 13, 1, sC 0),
  (false, 14, 1, sBin (fun x y => x + y)),
  (false, 15, 3, sPut 6 6),
  (false, 18, 1, sLdA 0),
  (false, 19, 1, sDup),
  (false, 20, 3, sGet 6 (fun w i M => aI (M 6 w i 7))),
  (false, 23, 1, sLdI 1),
  (false, 24, 1, sC 1),
  (false, 25, 3, sCmpNe 32),
  (false, 28, 1, sC 1),
  (false, 29, 3, sGoto 33),
  (false, 32, 1, sC 0),
  (false, 33, 1, sBin (fun x y => x + y)),
  (false, 34, 3, sPut 6 7),
  (false, 37, 1, sRetV)]
theorem oC_join {E : EV} (hsd : E.2.2.2 = 0) (l : Launch) : AllOK E l 1 "FreeLances$Company" prog_3_method_5_code 2 none outV (cC_join) := by
  refine ak (ok_aload_n (k := 0) rfl (by decide +kernel)) ?_
  refine ak (ok_dup (by decide +kernel)) ?_
  refine ak (ok_get (k := 6) ck1 kd6 (by decide) (fun _ _ _ => rfl) (fun _ _ _ _ _ => trivial) tw214 (by decide +kernel)) ?_
  refine ak (ok_iload_n (k := 1) rfl (by decide +kernel)) ?_
  refine ak (ok_if_ne (off := 7) (by decide) (by decide +kernel)) ?_
  refine ak (ok_iconst (n := 1) (by decide) (by decide +kernel)) ?_
  refine ak (ok_goto (off := 4) (by decide) (by decide +kernel)) ?_
  refine ak (ok_iconst (n := 0) (by decide) (by decide +kernel)) ?_
  refine ak (ok_iadd (by decide +kernel)) ?_
  refine ak (ok_put (k := 6) ck1 kd6 (by decide) (fun _ _ _ => rfl) rfl rfl (by decide) tw214 (by decide +kernel)) ?_
  refine ak (ok_aload_n (k := 0) rfl (by decide +kernel)) ?_
  refine ak (ok_dup (by decide +kernel)) ?_
  refine ak (ok_get (k := 7) ck1 kd6 (by decide) (fun _ _ _ => rfl) (fun _ _ _ _ _ => trivial) tw218 (by decide +kernel)) ?_
  refine ak (ok_iload_n (k := 1) rfl (by decide +kernel)) ?_
  refine ak (ok_iconst (n := 1) (by decide) (by decide +kernel)) ?_
  refine ak (ok_icmp_ne (off := 7) (by decide) (by decide +kernel)) ?_
  refine ak (ok_iconst (n := 1) (by decide) (by decide +kernel)) ?_
  refine ak (ok_goto (off := 4) (by decide) (by decide +kernel)) ?_
  refine ak (ok_iconst (n := 0) (by decide) (by decide +kernel)) ?_
  refine ak (ok_iadd (by decide +kernel)) ?_
  refine ak (ok_put (k := 7) ck1 kd6 (by decide) (fun _ _ _ => rfl) rfl rfl (by decide) tw218 (by decide +kernel)) ?_
  refine ak (ok_return rfl (by decide +kernel)) ?_
  exact trivial
set_option maxRecDepth 1000000 in
theorem eC_join (w0 : Nat) (i0 : Nat) (x1 : Int32) (M : Mem) : run (cC_join) (fun _ _ _ _ => none) rtV 400 (seek (cC_join) 0) [aR (6, w0, i0), aI x1] [] M = mC_join w0 i0 x1 M := id rfl
theorem lC_join {E : EV} {l : Launch} {p : Program} {e : Env} {s : State} {m : MethodId} {args : Array Value} {below : List Frame} {meth : Method} {c : Code} (A : AllOK E l 1 "FreeLances$Company" prog_3_method_5_code 2 none outV (cC_join)) (C : Cx E p s m args meth c "FreeLances$Company" prog_3_method_5_code 2 none) : ∀ (w0 : Nat) (i0 : Nat) (x1 : Int32) (M : Mem) (res : Mem), mC_join w0 i0 x1 M = some res → Wm E p l e 1 s m args below meth c 2 0 [aR (6, w0, i0), aI x1] [] M (outV res).1 (outV res).2 := by
  intro w0 i0 x1 M res h
  refine run_at C A rfl hrtV (n := 400) ((eC_join w0 i0 x1 M).trans h) ?_
  intro t als st M hk; cases hk
def dC_join {β : Type} : Den β := fun as M k => match as with
  | [.inr (.inr (.inl (al0, w0, i0))), .inl x1] => if al0 = 6 then (mC_join w0 i0 x1 M).bind fun q => k aU q else none
  | _ => none
theorem wC_join {E : EV} (hsd : E.2.2.2 = 0) (l : Launch) (w0 : Nat) (i0 : Nat) (x1 : Int32) (M : Mem) (q : Mem) (hq : mC_join w0 i0 x1 M = some q) : Con E l 1 yC_join prog_3_method_5_code 2 none [aR (6, w0, i0), aI x1] M (outV q).1 (outV q).2 := by
  refine con_of iC_join (Nat.le_of_ble_eq_true rfl) ?_
  intro p e s m args below meth c C
  exact lC_join (oC_join hsd l) C w0 i0 x1 M _ hq
theorem kC_join {E : EV} (hsd : E.2.2.2 = 0) (l : Launch) {β : Type} : DenOK E l 1 yC_join prog_3_method_5_code 2 none false (dC_join (β := β)) := by
  intro as M k res h
  unfold dC_join at h
  split at h
  ·
    split at h
    · rename_i hc
      obtain rfl := hc
      obtain ⟨q, hq, hk⟩ := Option.bind_eq_some_iff.mp h
      exact ⟨aU, q, hk, rfl, wC_join hsd l _ _ _ M q hq⟩
    · cases h
  · cases h
theorem qC_join {β : Type} : RecOK 6 (dC_join (β := β)) := by
  intro as M k res h
  unfold dC_join at h
  split at h
  ·
    split at h
    · rename_i hc
      obtain rfl := hc
      exact ⟨_, _, _, rfl⟩
    · cases h
  · cases h
/-! ===== FreeLances.over(II)I ===== -/
abbrev yF_over : MethodName := ⟨"FreeLances", "over", "(II)I"⟩
theorem iF_over : MI yF_over prog_1_method_14_code 5 (some .int) 2 := ⟨tw672, tw97, ⟨by decide, by decide⟩, by decide +kernel, by decide, by decide⟩
def cF_over : List (Ent (Int32 × Mem)) := [(false, 0, 1, sLdA 0),
  (false, 1, 1, sLdI 1),
  (false, 2, 3, sInv 2 true dF_isLance),
  (false, 5, 3, sIfEq 32),
  (false, 8, 1, sLdA 0),
  (false, 9, 1, sLdI 2),
  (false, 10, 3, sInv 2 true dF_isCompany),
  (false, 13, 3, sIfEq 32),
  (false, 16, 1, sLdA 0),
  (false, 17, 3, sGet 0 (fun w i M => aR (1, 0, 0))),
  (false, 20, 3, sGet 1 (fun w i M => aR (9, w, 0))),
  (false, 23, 1, sLdI 1),
  (false, 24, 1, sAald 9 40 10),
  (false, 25, 3, sGet 10 (fun w i M => aI (M 10 w i 0))),
  (false, 28, 1, sLdI 2),
  (false, 29, 3, sCmpNe 38),
  (false, 32, 1, sLdA 0),
  (false, 33, 1, sC 1),
  (false, 34, 3, sInv 2 true dF_finding),
  (false, 37, 1, sRetI),
  (false, 38, 1, sLdA 0),
  (false, 39, 3, sGet 0 (fun w i M => aR (1, 0, 0))),
  (false, 42, 3, sGet 1 (fun w i M => aR (9, w, 0))),
  (false, 45, 1, sLdI 1),
  (false, 46, 1, sAald 9 40 10),
  (false, 47, 1, sStA 3),
  (false, 48, 1, sLdA 3),
  (false, 49, 3, sGet 10 (fun w i M => aI (M 10 w i 0))),
  (false, 52, 2, sStI 4),
  (false, 54, 1, sLdA 3),
  (false, 55, 3, sInv 1 true dL_present),
  (false, 58, 3, sIfEq 86),
  (false, 61, 1, sLdA 0),
  (false, 62, 3, sGet 0 (fun w i M => aR (1, 0, 0))),
  (false, 65, 2, sLdI 4),
  (false, 67, 3, sInv 2 true dW_mayGo),
  (false, 70, 3, sIfEq 86),
  (false, 73, 1, sLdA 0),
  (false, 74, 3, sGet 0 (fun w i M => aR (1, 0, 0))),
  (false, 77, 2, sLdI 4),
  (false, 79, 1, sLdI 2),
  (false, 80, 3, sInv 3 true dW_together),
  (false, 83, 3, sIfNe 92),
  (false, 86, 1, sLdA 0),
  (false, 87, 1, sC 3),
  (false, 88, 3, sInv 2 true dF_finding),
  (false, 91, 1, sRetI),
  (false, 92, 1, sLdA 0),
  (false, 93, 3, sGet 0 (fun w i M => aR (1, 0, 0))),
  (false, 96, 3, sGet 1 (fun w i M => aR (5, w, 0))),
  (false, 99, 2, sLdI 4),
  (false, 101, 1, sAald 5 5 6),
  (false, 102, 1, sLdA 3),
  (false, 103, 3, sGet 10 (fun w i M => aI (M 10 w i 3))),
  (false, 106, 3, sInv 2 false dC_part),
  (false, 109, 1, sLdA 3),
  (false, 110, 1, sLdI 2),
  (false, 111, 3, sPut 10 0),
  (false, 114, 1, sLdA 0),
  (false, 115, 3, sGet 0 (fun w i M => aR (1, 0, 0))),
  (false, 118, 3, sGet 1 (fun w i M => aR (5, w, 0))),
  (false, 121, 1, sLdI 2),
  (false, 122, 1, sAald 5 5 6),
  (false, 123, 1, sLdA 3),
  (false, 124, 3, sGet 10 (fun w i M => aI (M 10 w i 3))),
  (false, 127, 3, sInv 2 false dC_join),
  (false, 130, 2, sLdI 4),
  (false, 132, 1, sRetI)]
theorem oF_over {E : EV} (hsd : E.2.2.2 = 0) (l : Launch) : AllOK E l 66 "FreeLances" prog_1_method_14_code 5 (some .int) outI (cF_over) := by
  refine ak (ok_aload_n (k := 0) rfl (by decide +kernel)) ?_
  refine ak (ok_iload_n (k := 1) rfl (by decide +kernel)) ?_
  refine ak (ok_invV (r := 0) (kF_isLance hsd l) qF_isLance ck10 kd0 iF_isLance tw667 tw3 (by decide) tw665 (by decide +kernel)) ?_
  refine ak (ok_if_eq (off := 27) (by decide) (by decide +kernel)) ?_
  refine ak (ok_aload_n (k := 0) rfl (by decide +kernel)) ?_
  refine ak (ok_iload_n (k := 2) rfl (by decide +kernel)) ?_
  refine ak (ok_invV (r := 0) (kF_isCompany hsd l) qF_isCompany ck10 kd0 iF_isCompany tw620 tw2 (by decide) tw618 (by decide +kernel)) ?_
  refine ak (ok_if_eq (off := 19) (by decide) (by decide +kernel)) ?_
  refine ak (ok_aload_n (k := 0) rfl (by decide +kernel)) ?_
  refine ak (ok_get (k := 0) ck10 kd0 (by decide) (fun _ _ _ => rfl) (vf_0_0 hsd) tw522 (by decide +kernel)) ?_
  refine ak (ok_get (k := 7) ck9 kd1 (by decide) (fun _ _ _ => rfl) (vf_1_7 hsd) tw403 (by decide +kernel)) ?_
  refine ak (ok_iload_n (k := 1) rfl (by decide +kernel)) ?_
  refine ak (ok_aald (t0 := 4) (C := RX2) kd9 (by decide) rfl (vr_9 hsd) (by decide +kernel)) ?_
  refine ak (ok_get (k := 0) ck2 kd10 (by decide) (fun _ _ _ => rfl) (fun _ _ _ _ _ => trivial) tw273 (by decide +kernel)) ?_
  refine ak (ok_iload_n (k := 2) rfl (by decide +kernel)) ?_
  refine ak (ok_icmp_ne (off := 9) (by decide) (by decide +kernel)) ?_
  refine ak (ok_aload_n (k := 0) rfl (by decide +kernel)) ?_
  refine ak (ok_iconst (n := 1) (by decide) (by decide +kernel)) ?_
  refine ak (ok_invV (r := 0) (kF_finding hsd l) qF_finding ck10 kd0 iF_finding tw557 tw0 (by decide) tw555 (by decide +kernel)) ?_
  refine ak (ok_ireturn rfl (by decide +kernel)) ?_
  refine ak (ok_aload_n (k := 0) rfl (by decide +kernel)) ?_
  refine ak (ok_get (k := 0) ck10 kd0 (by decide) (fun _ _ _ => rfl) (vf_0_0 hsd) tw522 (by decide +kernel)) ?_
  refine ak (ok_get (k := 7) ck9 kd1 (by decide) (fun _ _ _ => rfl) (vf_1_7 hsd) tw403 (by decide +kernel)) ?_
  refine ak (ok_iload_n (k := 1) rfl (by decide +kernel)) ?_
  refine ak (ok_aald (t0 := 4) (C := RX2) kd9 (by decide) rfl (vr_9 hsd) (by decide +kernel)) ?_
  refine ak (ok_astore_n (k := 3) rfl (by decide) (by decide +kernel)) ?_
  refine ak (ok_aload_n (k := 3) rfl (by decide +kernel)) ?_
  refine ak (ok_get (k := 0) ck2 kd10 (by decide) (fun _ _ _ => rfl) (fun _ _ _ _ _ => trivial) tw273 (by decide +kernel)) ?_
  refine ak (ok_istore (by decide) (by decide +kernel)) ?_
  refine ak (ok_aload_n (k := 3) rfl (by decide +kernel)) ?_
  refine ak (ok_invV (r := 10) (kL_present hsd l) qL_present ck2 kd10 iL_present tw674 tw675 (by decide) tw673 (by decide +kernel)) ?_
  refine ak (ok_if_eq (off := 28) (by decide) (by decide +kernel)) ?_
  refine ak (ok_aload_n (k := 0) rfl (by decide +kernel)) ?_
  refine ak (ok_get (k := 0) ck10 kd0 (by decide) (fun _ _ _ => rfl) (vf_0_0 hsd) tw522 (by decide +kernel)) ?_
  refine ak (ok_iload (by decide +kernel)) ?_
  refine ak (ok_invV (r := 1) (kW_mayGo hsd l) qW_mayGo ck9 kd1 iW_mayGo tw678 tw679 (by decide) tw677 (by decide +kernel)) ?_
  refine ak (ok_if_eq (off := 16) (by decide) (by decide +kernel)) ?_
  refine ak (ok_aload_n (k := 0) rfl (by decide +kernel)) ?_
  refine ak (ok_get (k := 0) ck10 kd0 (by decide) (fun _ _ _ => rfl) (vf_0_0 hsd) tw522 (by decide +kernel)) ?_
  refine ak (ok_iload (by decide +kernel)) ?_
  refine ak (ok_iload_n (k := 2) rfl (by decide +kernel)) ?_
  refine ak (ok_invV (r := 1) (kW_together hsd l) qW_together ck9 kd1 iW_together tw744 tw745 (by decide) tw743 (by decide +kernel)) ?_
  refine ak (ok_if_ne (off := 9) (by decide) (by decide +kernel)) ?_
  refine ak (ok_aload_n (k := 0) rfl (by decide +kernel)) ?_
  refine ak (ok_iconst (n := 3) (by decide) (by decide +kernel)) ?_
  refine ak (ok_invV (r := 0) (kF_finding hsd l) qF_finding ck10 kd0 iF_finding tw557 tw0 (by decide) tw555 (by decide +kernel)) ?_
  refine ak (ok_ireturn rfl (by decide +kernel)) ?_
  refine ak (ok_aload_n (k := 0) rfl (by decide +kernel)) ?_
  refine ak (ok_get (k := 0) ck10 kd0 (by decide) (fun _ _ _ => rfl) (vf_0_0 hsd) tw522 (by decide +kernel)) ?_
  refine ak (ok_get (k := 5) ck9 kd1 (by decide) (fun _ _ _ => rfl) (vf_1_5 hsd) tw398 (by decide +kernel)) ?_
  refine ak (ok_iload (by decide +kernel)) ?_
  refine ak (ok_aald (t0 := 3) (C := RX1) kd5 (by decide) rfl (vr_5 hsd) (by decide +kernel)) ?_
  refine ak (ok_aload_n (k := 3) rfl (by decide +kernel)) ?_
  refine ak (ok_get (k := 3) ck2 kd10 (by decide) (fun _ _ _ => rfl) (fun _ _ _ _ _ => trivial) tw282 (by decide +kernel)) ?_
  refine ak (ok_invV (r := 6) (kC_part hsd l) qC_part ck1 kd6 iC_part tw749 tw750 (by decide) tw748 (by decide +kernel)) ?_
  refine ak (ok_aload_n (k := 3) rfl (by decide +kernel)) ?_
  refine ak (ok_iload_n (k := 2) rfl (by decide +kernel)) ?_
  refine ak (ok_put (k := 0) ck2 kd10 (by decide) (fun _ _ _ => rfl) rfl rfl (by decide) tw273 (by decide +kernel)) ?_
  refine ak (ok_aload_n (k := 0) rfl (by decide +kernel)) ?_
  refine ak (ok_get (k := 0) ck10 kd0 (by decide) (fun _ _ _ => rfl) (vf_0_0 hsd) tw522 (by decide +kernel)) ?_
  refine ak (ok_get (k := 5) ck9 kd1 (by decide) (fun _ _ _ => rfl) (vf_1_5 hsd) tw398 (by decide +kernel)) ?_
  refine ak (ok_iload_n (k := 2) rfl (by decide +kernel)) ?_
  refine ak (ok_aald (t0 := 3) (C := RX1) kd5 (by decide) rfl (vr_5 hsd) (by decide +kernel)) ?_
  refine ak (ok_aload_n (k := 3) rfl (by decide +kernel)) ?_
  refine ak (ok_get (k := 3) ck2 kd10 (by decide) (fun _ _ _ => rfl) (fun _ _ _ _ _ => trivial) tw282 (by decide +kernel)) ?_
  refine ak (ok_invV (r := 6) (kC_join hsd l) qC_join ck1 kd6 iC_join tw753 tw754 (by decide) tw752 (by decide +kernel)) ?_
  refine ak (ok_iload (by decide +kernel)) ?_
  refine ak (ok_ireturn rfl (by decide +kernel)) ?_
  exact trivial
set_option maxRecDepth 1000000 in
theorem eF_over (x1 : Int32) (x2 : Int32) (M : Mem) : run (cF_over) (fun _ _ _ _ => none) rtI 400 (seek (cF_over) 0) [aR (0, 0, 0), aI x1, aI x2, aU, aU] [] M = mF_over x1 x2 M := id rfl
theorem lF_over {E : EV} {l : Launch} {p : Program} {e : Env} {s : State} {m : MethodId} {args : Array Value} {below : List Frame} {meth : Method} {c : Code} (A : AllOK E l 66 "FreeLances" prog_1_method_14_code 5 (some .int) outI (cF_over)) (C : Cx E p s m args meth c "FreeLances" prog_1_method_14_code 5 (some .int)) : ∀ (x1 : Int32) (x2 : Int32) (M : Mem) (res : (Int32 × Mem)), mF_over x1 x2 M = some res → Wm E p l e 66 s m args below meth c 5 0 [aR (0, 0, 0), aI x1, aI x2, aU, aU] [] M (outI res).1 (outI res).2 := by
  intro x1 x2 M res h
  refine run_at C A rfl hrtI (n := 400) ((eF_over x1 x2 M).trans h) ?_
  intro t als st M hk; cases hk
def dF_over {β : Type} : Den β := fun as M k => match as with
  | [.inr (.inr (.inl (al0, bl0, cl0))), .inl x1, .inl x2] => if al0 = 0 ∧ bl0 = 0 ∧ cl0 = 0 then (mF_over x1 x2 M).bind fun q => k (aI q.1) q.2 else none
  | _ => none
theorem wF_over {E : EV} (hsd : E.2.2.2 = 0) (l : Launch) (x1 : Int32) (x2 : Int32) (M : Mem) (q : (Int32 × Mem)) (hq : mF_over x1 x2 M = some q) : Con E l 66 yF_over prog_1_method_14_code 5 (some .int) [aR (0, 0, 0), aI x1, aI x2] M (outI q).1 (outI q).2 := by
  refine con_of iF_over (Nat.le_of_ble_eq_true rfl) ?_
  intro p e s m args below meth c C
  exact lF_over (oF_over hsd l) C x1 x2 M _ hq
theorem kF_over {E : EV} (hsd : E.2.2.2 = 0) (l : Launch) {β : Type} : DenOK E l 66 yF_over prog_1_method_14_code 5 (some .int) true (dF_over (β := β)) := by
  intro as M k res h
  unfold dF_over at h
  split at h
  ·
    split at h
    · rename_i hc
      obtain ⟨rfl, rfl, rfl⟩ := hc
      obtain ⟨q, hq, hk⟩ := Option.bind_eq_some_iff.mp h
      exact ⟨aI q.1, q.2, hk, rfl, wF_over hsd l _ _ M q hq⟩
    · cases h
  · cases h
theorem qF_over {β : Type} : RecOK 0 (dF_over (β := β)) := by
  intro as M k res h
  unfold dF_over at h
  split at h
  ·
    split at h
    · rename_i hc
      obtain ⟨rfl, rfl, rfl⟩ := hc
      exact ⟨_, _, _, rfl⟩
    · cases h
  · cases h
/-! ===== FreeLances$World.become(LFreeLances$Lance;I)V ===== -/
abbrev yW_become : MethodName := ⟨"FreeLances$World", "become", "(LFreeLances$Lance;I)V"⟩
theorem iW_become : MI yW_become prog_11_method_7_code 4 none 2 := ⟨tw763, tw98, ⟨by decide, by decide⟩, by decide +kernel, by decide, by decide⟩
def cW_become : List (Ent Mem) := [(false, 0, 1, sLdA 0),
  (false, 1, 3, sGet 1 (fun w i M => aR (5, w, 0))),
  (false, 4, 1, sLdA 1),
  (false, 5, 3, sGet 10 (fun w i M => aI (M 10 w i 0))),
  (false, 8, 1, sAald 5 5 6),
  (false, 9, 1, sStA 3),
  (false, 10, 1, sLdA 3),
  (false, 11, 1, sLdA 1),
  (false, 12, 3, sGet 10 (fun w i M => aI (M 10 w i 3))),
  (false, 15, 3, sInv 2 false dC_part),
  (false, 18, 1, sLdA 1),
  (false, 19, 1, sLdI 2),
  (false, 20, 3, sPut 10 3),
  (false, 23, 1, sLdA 3),
  (false, 24, 1, sLdI 2),
  (false, 25, 3, sInv 2 false dC_join),
  (false, 28, 1, sRetV)]
theorem oW_become {E : EV} (hsd : E.2.2.2 = 0) (l : Launch) : AllOK E l 2 "FreeLances$World" prog_11_method_7_code 4 none outV (cW_become) := by
  refine ak (ok_aload_n (k := 0) rfl (by decide +kernel)) ?_
  refine ak (ok_get (k := 5) ck9 kd1 (by decide) (fun _ _ _ => rfl) (vf_1_5 hsd) tw396 (by decide +kernel)) ?_
  refine ak (ok_aload_n (k := 1) rfl (by decide +kernel)) ?_
  refine ak (ok_get (k := 0) ck2 kd10 (by decide) (fun _ _ _ => rfl) (fun _ _ _ _ _ => trivial) tw272 (by decide +kernel)) ?_
  refine ak (ok_aald (t0 := 3) (C := RX1) kd5 (by decide) rfl (vr_5 hsd) (by decide +kernel)) ?_
  refine ak (ok_astore_n (k := 3) rfl (by decide) (by decide +kernel)) ?_
  refine ak (ok_aload_n (k := 3) rfl (by decide +kernel)) ?_
  refine ak (ok_aload_n (k := 1) rfl (by decide +kernel)) ?_
  refine ak (ok_get (k := 3) ck2 kd10 (by decide) (fun _ _ _ => rfl) (fun _ _ _ _ _ => trivial) tw281 (by decide +kernel)) ?_
  refine ak (ok_invV (r := 6) (kC_part hsd l) qC_part ck1 kd6 iC_part tw749 tw750 (by decide) tw764 (by decide +kernel)) ?_
  refine ak (ok_aload_n (k := 1) rfl (by decide +kernel)) ?_
  refine ak (ok_iload_n (k := 2) rfl (by decide +kernel)) ?_
  refine ak (ok_put (k := 3) ck2 kd10 (by decide) (fun _ _ _ => rfl) rfl rfl (by decide) tw281 (by decide +kernel)) ?_
  refine ak (ok_aload_n (k := 3) rfl (by decide +kernel)) ?_
  refine ak (ok_iload_n (k := 2) rfl (by decide +kernel)) ?_
  refine ak (ok_invV (r := 6) (kC_join hsd l) qC_join ck1 kd6 iC_join tw753 tw754 (by decide) tw765 (by decide +kernel)) ?_
  refine ak (ok_return rfl (by decide +kernel)) ?_
  exact trivial
set_option maxRecDepth 1000000 in
theorem eW_become (w0 : Nat) (w1 : Nat) (i1 : Nat) (x2 : Int32) (M : Mem) : run (cW_become) (fun _ _ _ _ => none) rtV 400 (seek (cW_become) 0) [aR (1, w0, 0), aR (10, w1, i1), aI x2, aU] [] M = mW_become w0 w1 i1 x2 M := id rfl
theorem lW_become {E : EV} {l : Launch} {p : Program} {e : Env} {s : State} {m : MethodId} {args : Array Value} {below : List Frame} {meth : Method} {c : Code} (A : AllOK E l 2 "FreeLances$World" prog_11_method_7_code 4 none outV (cW_become)) (C : Cx E p s m args meth c "FreeLances$World" prog_11_method_7_code 4 none) : ∀ (w0 : Nat) (w1 : Nat) (i1 : Nat) (x2 : Int32) (M : Mem) (res : Mem), mW_become w0 w1 i1 x2 M = some res → Wm E p l e 2 s m args below meth c 4 0 [aR (1, w0, 0), aR (10, w1, i1), aI x2, aU] [] M (outV res).1 (outV res).2 := by
  intro w0 w1 i1 x2 M res h
  refine run_at C A rfl hrtV (n := 400) ((eW_become w0 w1 i1 x2 M).trans h) ?_
  intro t als st M hk; cases hk
def dW_become {β : Type} : Den β := fun as M k => match as with
  | [.inr (.inr (.inl (al0, w0, cl0))), .inr (.inr (.inl (al1, w1, i1))), .inl x2] => if al0 = 1 ∧ cl0 = 0 ∧ al1 = 10 then (mW_become w0 w1 i1 x2 M).bind fun q => k aU q else none
  | _ => none
theorem wW_become {E : EV} (hsd : E.2.2.2 = 0) (l : Launch) (w0 : Nat) (w1 : Nat) (i1 : Nat) (x2 : Int32) (M : Mem) (q : Mem) (hq : mW_become w0 w1 i1 x2 M = some q) : Con E l 2 yW_become prog_11_method_7_code 4 none [aR (1, w0, 0), aR (10, w1, i1), aI x2] M (outV q).1 (outV q).2 := by
  refine con_of iW_become (Nat.le_of_ble_eq_true rfl) ?_
  intro p e s m args below meth c C
  exact lW_become (oW_become hsd l) C w0 w1 i1 x2 M _ hq
theorem kW_become {E : EV} (hsd : E.2.2.2 = 0) (l : Launch) {β : Type} : DenOK E l 2 yW_become prog_11_method_7_code 4 none false (dW_become (β := β)) := by
  intro as M k res h
  unfold dW_become at h
  split at h
  ·
    split at h
    · rename_i hc
      obtain ⟨rfl, rfl, rfl⟩ := hc
      obtain ⟨q, hq, hk⟩ := Option.bind_eq_some_iff.mp h
      exact ⟨aU, q, hk, rfl, wW_become hsd l _ _ _ _ M q hq⟩
    · cases h
  · cases h
theorem qW_become {β : Type} : RecOK 1 (dW_become (β := β)) := by
  intro as M k res h
  unfold dW_become at h
  split at h
  ·
    split at h
    · rename_i hc
      obtain ⟨rfl, rfl, rfl⟩ := hc
      exact ⟨_, _, _, rfl⟩
    · cases h
  · cases h
/-! ===== FreeLances.take(II)I ===== -/
abbrev yF_take : MethodName := ⟨"FreeLances", "take", "(II)I"⟩
theorem iF_take : MI yF_take prog_1_method_15_code 4 (some .int) 2 := ⟨tw759, tw97, ⟨by decide, by decide⟩, by decide +kernel, by decide, by decide⟩
def cF_take : List (Ent (Int32 × Mem)) := [(false, 0, 1, sLdA 0),
  (false, 1, 1, sLdI 1),
  (false, 2, 3, sInv 2 true dF_isTown),
  (false, 5, 3, sIfEq 16),
  (false, 8, 1, sLdA 0),
  (false, 9, 1, sLdI 2),
  (false, 10, 3, sInv 2 true dF_isLance),
  (false, 13, 3, sIfNe 22),
  (false, 16, 1, sLdA 0),
  (false, 17, 1, sC 1),
  (false, 18, 3, sInv 2 true dF_finding),
  (false, 21, 1, sRetI),
  (false, 22, 1, sLdA 0),
  (false, 23, 3, sGet 0 (fun w i M => aR (1, 0, 0))),
  (false, 26, 3, sGet 1 (fun w i M => aR (9, w, 0))),
  (false, 29, 1, sLdI 2),
  (false, 30, 1, sAald 9 40 10),
  (false, 31, 1, sStA 3),
  (false, 32, 1, sLdA 3),
  (false, 33, 3, sInv 1 true dL_present),
  (false, 36, 3, sIfEq 58),
  (false, 39, 1, sLdA 0),
  (false, 40, 3, sGet 0 (fun w i M => aR (1, 0, 0))),
  (false, 43, 3, sGet 1 (fun w i M => aR (5, w, 0))),
  (false, 46, 1, sLdA 3),
  (false, 47, 3, sGet 10 (fun w i M => aI (M 10 w i 0))),
  (false, 50, 1, sAald 5 5 6),
  (false, 51, 3, sGet 6 (fun w i M => aI (M 6 w i 3))),
  (false, 54, 1, sLdI 1),
  (false, 55, 3, sCmpNe 64),
  (false, 58, 1, sLdA 0),
  (false, 59, 1, sC 3),
  (false, 60, 3, sInv 2 true dF_finding),
  (false, 63, 1, sRetI),
  (false, 64, 1, sLdA 0),
  (false, 65, 3, sGet 0 (fun w i M => aR (1, 0, 0))),
  (false, 68, 1, sLdA 3),
  (false, 69, 1, sC 2),
  (false, 70, 3, sInv 3 false dW_become),
  (false, 73, 1, sLdA 3),
  (false, 74, 1, sLdI 1),
  (false, 75, 3, sPut 10 4),
  (false, 78, 1, sC 1),
  (false, 79, 1, sRetI)]
theorem oF_take {E : EV} (hsd : E.2.2.2 = 0) (l : Launch) : AllOK E l 3 "FreeLances" prog_1_method_15_code 4 (some .int) outI (cF_take) := by
  refine ak (ok_aload_n (k := 0) rfl (by decide +kernel)) ?_
  refine ak (ok_iload_n (k := 1) rfl (by decide +kernel)) ?_
  refine ak (ok_invV (r := 0) (kF_isTown hsd l) qF_isTown ck10 kd0 iF_isTown tw570 tw1 (by decide) tw568 (by decide +kernel)) ?_
  refine ak (ok_if_eq (off := 11) (by decide) (by decide +kernel)) ?_
  refine ak (ok_aload_n (k := 0) rfl (by decide +kernel)) ?_
  refine ak (ok_iload_n (k := 2) rfl (by decide +kernel)) ?_
  refine ak (ok_invV (r := 0) (kF_isLance hsd l) qF_isLance ck10 kd0 iF_isLance tw667 tw3 (by decide) tw665 (by decide +kernel)) ?_
  refine ak (ok_if_ne (off := 9) (by decide) (by decide +kernel)) ?_
  refine ak (ok_aload_n (k := 0) rfl (by decide +kernel)) ?_
  refine ak (ok_iconst (n := 1) (by decide) (by decide +kernel)) ?_
  refine ak (ok_invV (r := 0) (kF_finding hsd l) qF_finding ck10 kd0 iF_finding tw557 tw0 (by decide) tw555 (by decide +kernel)) ?_
  refine ak (ok_ireturn rfl (by decide +kernel)) ?_
  refine ak (ok_aload_n (k := 0) rfl (by decide +kernel)) ?_
  refine ak (ok_get (k := 0) ck10 kd0 (by decide) (fun _ _ _ => rfl) (vf_0_0 hsd) tw522 (by decide +kernel)) ?_
  refine ak (ok_get (k := 7) ck9 kd1 (by decide) (fun _ _ _ => rfl) (vf_1_7 hsd) tw403 (by decide +kernel)) ?_
  refine ak (ok_iload_n (k := 2) rfl (by decide +kernel)) ?_
  refine ak (ok_aald (t0 := 4) (C := RX2) kd9 (by decide) rfl (vr_9 hsd) (by decide +kernel)) ?_
  refine ak (ok_astore_n (k := 3) rfl (by decide) (by decide +kernel)) ?_
  refine ak (ok_aload_n (k := 3) rfl (by decide +kernel)) ?_
  refine ak (ok_invV (r := 10) (kL_present hsd l) qL_present ck2 kd10 iL_present tw674 tw675 (by decide) tw673 (by decide +kernel)) ?_
  refine ak (ok_if_eq (off := 22) (by decide) (by decide +kernel)) ?_
  refine ak (ok_aload_n (k := 0) rfl (by decide +kernel)) ?_
  refine ak (ok_get (k := 0) ck10 kd0 (by decide) (fun _ _ _ => rfl) (vf_0_0 hsd) tw522 (by decide +kernel)) ?_
  refine ak (ok_get (k := 5) ck9 kd1 (by decide) (fun _ _ _ => rfl) (vf_1_5 hsd) tw398 (by decide +kernel)) ?_
  refine ak (ok_aload_n (k := 3) rfl (by decide +kernel)) ?_
  refine ak (ok_get (k := 0) ck2 kd10 (by decide) (fun _ _ _ => rfl) (fun _ _ _ _ _ => trivial) tw273 (by decide +kernel)) ?_
  refine ak (ok_aald (t0 := 3) (C := RX1) kd5 (by decide) rfl (vr_5 hsd) (by decide +kernel)) ?_
  refine ak (ok_get (k := 3) ck1 kd6 (by decide) (fun _ _ _ => rfl) (fun _ _ _ _ _ => trivial) tw209 (by decide +kernel)) ?_
  refine ak (ok_iload_n (k := 1) rfl (by decide +kernel)) ?_
  refine ak (ok_icmp_ne (off := 9) (by decide) (by decide +kernel)) ?_
  refine ak (ok_aload_n (k := 0) rfl (by decide +kernel)) ?_
  refine ak (ok_iconst (n := 3) (by decide) (by decide +kernel)) ?_
  refine ak (ok_invV (r := 0) (kF_finding hsd l) qF_finding ck10 kd0 iF_finding tw557 tw0 (by decide) tw555 (by decide +kernel)) ?_
  refine ak (ok_ireturn rfl (by decide +kernel)) ?_
  refine ak (ok_aload_n (k := 0) rfl (by decide +kernel)) ?_
  refine ak (ok_get (k := 0) ck10 kd0 (by decide) (fun _ _ _ => rfl) (vf_0_0 hsd) tw522 (by decide +kernel)) ?_
  refine ak (ok_aload_n (k := 3) rfl (by decide +kernel)) ?_
  refine ak (ok_iconst (n := 2) (by decide) (by decide +kernel)) ?_
  refine ak (ok_invV (r := 1) (kW_become hsd l) qW_become ck9 kd1 iW_become tw761 tw762 (by decide) tw760 (by decide +kernel)) ?_
  refine ak (ok_aload_n (k := 3) rfl (by decide +kernel)) ?_
  refine ak (ok_iload_n (k := 1) rfl (by decide +kernel)) ?_
  refine ak (ok_put (k := 4) ck2 kd10 (by decide) (fun _ _ _ => rfl) rfl rfl (by decide) tw284 (by decide +kernel)) ?_
  refine ak (ok_iconst (n := 1) (by decide) (by decide +kernel)) ?_
  refine ak (ok_ireturn rfl (by decide +kernel)) ?_
  exact trivial
set_option maxRecDepth 1000000 in
theorem eF_take (x1 : Int32) (x2 : Int32) (M : Mem) : run (cF_take) (fun _ _ _ _ => none) rtI 400 (seek (cF_take) 0) [aR (0, 0, 0), aI x1, aI x2, aU] [] M = mF_take x1 x2 M := id rfl
theorem lF_take {E : EV} {l : Launch} {p : Program} {e : Env} {s : State} {m : MethodId} {args : Array Value} {below : List Frame} {meth : Method} {c : Code} (A : AllOK E l 3 "FreeLances" prog_1_method_15_code 4 (some .int) outI (cF_take)) (C : Cx E p s m args meth c "FreeLances" prog_1_method_15_code 4 (some .int)) : ∀ (x1 : Int32) (x2 : Int32) (M : Mem) (res : (Int32 × Mem)), mF_take x1 x2 M = some res → Wm E p l e 3 s m args below meth c 4 0 [aR (0, 0, 0), aI x1, aI x2, aU] [] M (outI res).1 (outI res).2 := by
  intro x1 x2 M res h
  refine run_at C A rfl hrtI (n := 400) ((eF_take x1 x2 M).trans h) ?_
  intro t als st M hk; cases hk
def dF_take {β : Type} : Den β := fun as M k => match as with
  | [.inr (.inr (.inl (al0, bl0, cl0))), .inl x1, .inl x2] => if al0 = 0 ∧ bl0 = 0 ∧ cl0 = 0 then (mF_take x1 x2 M).bind fun q => k (aI q.1) q.2 else none
  | _ => none
theorem wF_take {E : EV} (hsd : E.2.2.2 = 0) (l : Launch) (x1 : Int32) (x2 : Int32) (M : Mem) (q : (Int32 × Mem)) (hq : mF_take x1 x2 M = some q) : Con E l 3 yF_take prog_1_method_15_code 4 (some .int) [aR (0, 0, 0), aI x1, aI x2] M (outI q).1 (outI q).2 := by
  refine con_of iF_take (Nat.le_of_ble_eq_true rfl) ?_
  intro p e s m args below meth c C
  exact lF_take (oF_take hsd l) C x1 x2 M _ hq
theorem kF_take {E : EV} (hsd : E.2.2.2 = 0) (l : Launch) {β : Type} : DenOK E l 3 yF_take prog_1_method_15_code 4 (some .int) true (dF_take (β := β)) := by
  intro as M k res h
  unfold dF_take at h
  split at h
  ·
    split at h
    · rename_i hc
      obtain ⟨rfl, rfl, rfl⟩ := hc
      obtain ⟨q, hq, hk⟩ := Option.bind_eq_some_iff.mp h
      exact ⟨aI q.1, q.2, hk, rfl, wF_take hsd l _ _ M q hq⟩
    · cases h
  · cases h
theorem qF_take {β : Type} : RecOK 0 (dF_take (β := β)) := by
  intro as M k res h
  unfold dF_take at h
  split at h
  ·
    split at h
    · rename_i hc
      obtain ⟨rfl, rfl, rfl⟩ := hc
      exact ⟨_, _, _, rfl⟩
    · cases h
  · cases h
/-! ===== FreeLances.feed(JI)I ===== -/
abbrev yF_feed : MethodName := ⟨"FreeLances", "feed", "(JI)I"⟩
theorem iF_feed : MI yF_feed prog_1_method_16_code 5 (some .int) 2 := ⟨tw769, tw97, ⟨by decide, by decide⟩, by decide +kernel, by decide, by decide⟩
def cF_feed : List (Ent (Int32 × Mem)) := [(false, 0, 1, sLdI 3),
  (false, 1, 1, sC 1),
  (false, 2, 2, sC 8),
  (false, 4, 3, sInv 3 true dF_within),
  (false, 7, 3, sIfNe 16),
  (false, 10, 1, sLdA 0),
  (false, 11, 1, sC 1),
  (false, 12, 3, sInv 2 true dF_finding),
  (false, 15, 1, sRetI),
  (false, 16, 1, sLdA 0),
  (false, 17, 3, sGet 0 (fun w i M => aR (1, 0, 0))),
  (false, 20, 3, sGet 1 (fun w i M => aI (M 1 w i 14))),
  (false, 23, 1, sLdI 3),
  (false, 24, 1, sBin (fun x y => x + y)),
  (false, 25, 2, sC 50),
  (false, 27, 3, sCmpLe 36),
  (false, 30, 1, sLdA 0),
  (false, 31, 1, sC 4),
  (false, 32, 3, sInv 2 true dF_finding),
  (false, 35, 1, sRetI),
  (false, 36, 1, sC 0),
  (false, 37, 2, sStI 4),
  (true, 39, 2, sLdI 4),
  (false, 41, 1, sLdI 3),
  (false, 42, 3, sCmpGe 78),
  (false, 45, 1, sLdA 0),
  (false, 46, 3, sGet 0 (fun w i M => aR (1, 0, 0))),
  (false, 49, 3, sGet 1 (fun w i M => aR (13, w, 12))),
  (false, 52, 1, sLdA 0),
  (false, 53, 3, sGet 0 (fun w i M => aR (1, 0, 0))),
  (false, 56, 3, sGet 1 (fun w i M => aI (M 1 w i 14))),
  (false, 59, 2, sLdI 4),
  (false, 61, 1, sBin (fun x y => x + y)),
  (false, 62, 1, sLdL 1),
  (false, 63, 2, sC 8),
  (false, 65, 2, sLdI 4),
  (false, 67, 1, sBin (fun x y => x * y)),
  (false, 68, 1, sShL (fun x y => (x.toUInt64 >>> (y.toInt64.toUInt64 &&& Int64.toUInt64 63)).toInt64)),
  (false, 69, 1, sL2I),
  (false, 70, 1, sUn (fun x => x.toInt8.toInt32)),
  (false, 71, 1, sBast),
  (false, 72, 3, sInc 4 1),
  (false, 75, 3, sGoto 39),
  (false, 78, 1, sLdA 0),
  (false, 79, 3, sGet 0 (fun w i M => aR (1, 0, 0))),
  (false, 82, 1, sDup),
  (false, 83, 3, sGet 1 (fun w i M => aI (M 1 w i 14))),
  (false, 86, 1, sLdI 3),
  (false, 87, 1, sBin (fun x y => x + y)),
  (false, 88, 3, sPut 1 14),
  (false, 91, 1, sLdA 0),
  (false, 92, 3, sGet 0 (fun w i M => aR (1, 0, 0))),
  (false, 95, 3, sGet 1 (fun w i M => aI (M 1 w i 14))),
  (false, 98, 1, sRetI)]
theorem oF_feed {E : EV} (hsd : E.2.2.2 = 0) (l : Launch) : AllOK E l 2 "FreeLances" prog_1_method_16_code 5 (some .int) outI (cF_feed) := by
  refine ak (ok_iload_n (k := 3) rfl (by decide +kernel)) ?_
  refine ak (ok_iconst (n := 1) (by decide) (by decide +kernel)) ?_
  refine ak (ok_bipush (n := 8) (by decide) (by decide +kernel)) ?_
  refine ak (ok_invS (kF_within hsd l) iF_within tw553 (by decide) tw552 (by decide +kernel)) ?_
  refine ak (ok_if_ne (off := 9) (by decide) (by decide +kernel)) ?_
  refine ak (ok_aload_n (k := 0) rfl (by decide +kernel)) ?_
  refine ak (ok_iconst (n := 1) (by decide) (by decide +kernel)) ?_
  refine ak (ok_invV (r := 0) (kF_finding hsd l) qF_finding ck10 kd0 iF_finding tw557 tw0 (by decide) tw555 (by decide +kernel)) ?_
  refine ak (ok_ireturn rfl (by decide +kernel)) ?_
  refine ak (ok_aload_n (k := 0) rfl (by decide +kernel)) ?_
  refine ak (ok_get (k := 0) ck10 kd0 (by decide) (fun _ _ _ => rfl) (vf_0_0 hsd) tw522 (by decide +kernel)) ?_
  refine ak (ok_get (k := 14) ck9 kd1 (by decide) (fun _ _ _ => rfl) (fun _ _ _ _ _ => trivial) tw417 (by decide +kernel)) ?_
  refine ak (ok_iload_n (k := 3) rfl (by decide +kernel)) ?_
  refine ak (ok_iadd (by decide +kernel)) ?_
  refine ak (ok_bipush (n := 50) (by decide) (by decide +kernel)) ?_
  refine ak (ok_icmp_le (off := 9) (by decide) (by decide +kernel)) ?_
  refine ak (ok_aload_n (k := 0) rfl (by decide +kernel)) ?_
  refine ak (ok_iconst (n := 4) (by decide) (by decide +kernel)) ?_
  refine ak (ok_invV (r := 0) (kF_finding hsd l) qF_finding ck10 kd0 iF_finding tw557 tw0 (by decide) tw555 (by decide +kernel)) ?_
  refine ak (ok_ireturn rfl (by decide +kernel)) ?_
  refine ak (ok_iconst (n := 0) (by decide) (by decide +kernel)) ?_
  refine ak (ok_istore (by decide) (by decide +kernel)) ?_
  refine ak (ok_iload (by decide +kernel)) ?_
  refine ak (ok_iload_n (k := 3) rfl (by decide +kernel)) ?_
  refine ak (ok_icmp_ge (off := 36) (by decide) (by decide +kernel)) ?_
  refine ak (ok_aload_n (k := 0) rfl (by decide +kernel)) ?_
  refine ak (ok_get (k := 0) ck10 kd0 (by decide) (fun _ _ _ => rfl) (vf_0_0 hsd) tw522 (by decide +kernel)) ?_
  refine ak (ok_get (k := 13) ck9 kd1 (by decide) (fun _ _ _ => rfl) (vf_1_13 hsd) tw415 (by decide +kernel)) ?_
  refine ak (ok_aload_n (k := 0) rfl (by decide +kernel)) ?_
  refine ak (ok_get (k := 0) ck10 kd0 (by decide) (fun _ _ _ => rfl) (vf_0_0 hsd) tw522 (by decide +kernel)) ?_
  refine ak (ok_get (k := 14) ck9 kd1 (by decide) (fun _ _ _ => rfl) (fun _ _ _ _ _ => trivial) tw417 (by decide +kernel)) ?_
  refine ak (ok_iload (by decide +kernel)) ?_
  refine ak (ok_iadd (by decide +kernel)) ?_
  refine ak (ok_lload_n (k := 1) rfl (by decide +kernel)) ?_
  refine ak (ok_bipush (n := 8) (by decide) (by decide +kernel)) ?_
  refine ak (ok_iload (by decide +kernel)) ?_
  refine ak (ok_imul (by decide +kernel)) ?_
  refine ak (ok_lushr (by decide +kernel)) ?_
  refine ak (ok_l2i (by decide +kernel)) ?_
  refine ak (ok_i2b (by decide +kernel)) ?_
  refine ak (ok_bast (by decide +kernel)) ?_
  refine ak (ok_iinc (n := 1) (by decide) (by decide) (by decide +kernel)) ?_
  refine ak (ok_goto (off := (-36)) (by decide) (by decide +kernel)) ?_
  refine ak (ok_aload_n (k := 0) rfl (by decide +kernel)) ?_
  refine ak (ok_get (k := 0) ck10 kd0 (by decide) (fun _ _ _ => rfl) (vf_0_0 hsd) tw522 (by decide +kernel)) ?_
  refine ak (ok_dup (by decide +kernel)) ?_
  refine ak (ok_get (k := 14) ck9 kd1 (by decide) (fun _ _ _ => rfl) (fun _ _ _ _ _ => trivial) tw417 (by decide +kernel)) ?_
  refine ak (ok_iload_n (k := 3) rfl (by decide +kernel)) ?_
  refine ak (ok_iadd (by decide +kernel)) ?_
  refine ak (ok_put (k := 14) ck9 kd1 (by decide) (fun _ _ _ => rfl) rfl rfl (by decide) tw417 (by decide +kernel)) ?_
  refine ak (ok_aload_n (k := 0) rfl (by decide +kernel)) ?_
  refine ak (ok_get (k := 0) ck10 kd0 (by decide) (fun _ _ _ => rfl) (vf_0_0 hsd) tw522 (by decide +kernel)) ?_
  refine ak (ok_get (k := 14) ck9 kd1 (by decide) (fun _ _ _ => rfl) (fun _ _ _ _ _ => trivial) tw417 (by decide +kernel)) ?_
  refine ak (ok_ireturn rfl (by decide +kernel)) ?_
  exact trivial
def KF_feed_39 (j39 : Int64 → Int32 → Int32 → Mem → Option (Int32 × Mem)) : Jm (Int32 × Mem) := fun t als st M =>
  if t = 39 then (match als, st with
  | [.inr (.inr (.inl (al0, bl0, cl0))), .inr (.inl x1), _, .inl x3, .inl x4], [] => if al0 = 0 ∧ bl0 = 0 ∧ cl0 = 0 then j39 x1 x3 x4 M else none
  | _, _ => none) else
  none
set_option maxRecDepth 1000000 in
theorem eF_feed_39 (j39 : Int64 → Int32 → Int32 → Mem → Option (Int32 × Mem)) (x1 : Int64) (x3 : Int32) (x4 : Int32) (M : Mem) (u2 : AV) : run (cF_feed) (KF_feed_39 j39) rtI 400 (seek (cF_feed) 39) [aR (0, 0, 0), aL x1, u2, aI x3, aI x4] [] M = mF_feed_39b j39 x1 x3 x4 M := id rfl
theorem lF_feed_39 {E : EV} {l : Launch} {p : Program} {e : Env} {s : State} {m : MethodId} {args : Array Value} {below : List Frame} {meth : Method} {c : Code} (A : AllOK E l 2 "FreeLances" prog_1_method_16_code 5 (some .int) outI (cF_feed)) (C : Cx E p s m args meth c "FreeLances" prog_1_method_16_code 5 (some .int)) : ∀ (n : Nat), ∀ (x1 : Int64) (x3 : Int32) (x4 : Int32) (M : Mem) (res : (Int32 × Mem)), mF_feed_39 n x1 x3 x4 M = some res → ∀ (u2 : AV), Wm E p l e 2 s m args below meth c 5 39 [aR (0, 0, 0), aL x1, u2, aI x3, aI x4] [] M (outI res).1 (outI res).2 := by
  intro n
  induction n with
  | zero => intro _ _ _ M res h; cases h
  | succ n ih =>
    intro x1 x3 x4 M res h u2
    refine run_at C A rfl hrtI (n := 400) ((eF_feed_39 (mF_feed_39 n) x1 x3 x4 M u2).trans h) ?_
    intro t als st M hk
    unfold KF_feed_39 at hk
    split at hk
    · rename_i ht
      subst ht
      split at hk
      · split at hk
        · rename_i hc
          obtain ⟨rfl, rfl, rfl⟩ := hc
          exact ih _ _ _ _ _ hk _
        · cases hk
      · cases hk
    cases hk
def KF_feed (j39 : Int64 → Int32 → Int32 → Mem → Option (Int32 × Mem)) : Jm (Int32 × Mem) := fun t als st M =>
  if t = 39 then (match als, st with
  | [.inr (.inr (.inl (al0, bl0, cl0))), .inr (.inl x1), _, .inl x3, .inl x4], [] => if al0 = 0 ∧ bl0 = 0 ∧ cl0 = 0 then j39 x1 x3 x4 M else none
  | _, _ => none) else
  none
set_option maxRecDepth 1000000 in
theorem eF_feed (j39 : Int64 → Int32 → Int32 → Mem → Option (Int32 × Mem)) (x1 : Int64) (x3 : Int32) (M : Mem) : run (cF_feed) (KF_feed j39) rtI 400 (seek (cF_feed) 0) [aR (0, 0, 0), aL x1, aU, aI x3, aU] [] M = mF_feedb j39 x1 x3 M := id rfl
theorem lF_feed {E : EV} {l : Launch} {p : Program} {e : Env} {s : State} {m : MethodId} {args : Array Value} {below : List Frame} {meth : Method} {c : Code} (A : AllOK E l 2 "FreeLances" prog_1_method_16_code 5 (some .int) outI (cF_feed)) (C : Cx E p s m args meth c "FreeLances" prog_1_method_16_code 5 (some .int)) : ∀ (x1 : Int64) (x3 : Int32) (M : Mem) (res : (Int32 × Mem)), mF_feed x1 x3 M = some res → Wm E p l e 2 s m args below meth c 5 0 [aR (0, 0, 0), aL x1, aU, aI x3, aU] [] M (outI res).1 (outI res).2 := by
  intro x1 x3 M res h
  refine run_at C A rfl hrtI (n := 400) ((eF_feed (mF_feed_39 fuel) x1 x3 M).trans h) ?_
  intro t als st M hk
  unfold KF_feed at hk
  split at hk
  · rename_i ht
    subst ht
    split at hk
    · split at hk
      · rename_i hc
        obtain ⟨rfl, rfl, rfl⟩ := hc
        exact lF_feed_39 A C _ _ _ _ _ _ hk _
      · cases hk
    · cases hk
  cases hk
def dF_feed {β : Type} : Den β := fun as M k => match as with
  | [.inr (.inr (.inl (al0, bl0, cl0))), .inr (.inl x1), .inl x3] => if al0 = 0 ∧ bl0 = 0 ∧ cl0 = 0 then (mF_feed x1 x3 M).bind fun q => k (aI q.1) q.2 else none
  | _ => none
theorem wF_feed {E : EV} (hsd : E.2.2.2 = 0) (l : Launch) (x1 : Int64) (x3 : Int32) (M : Mem) (q : (Int32 × Mem)) (hq : mF_feed x1 x3 M = some q) : Con E l 2 yF_feed prog_1_method_16_code 5 (some .int) [aR (0, 0, 0), aL x1, aI x3] M (outI q).1 (outI q).2 := by
  refine con_of iF_feed (Nat.le_of_ble_eq_true rfl) ?_
  intro p e s m args below meth c C
  exact lF_feed (oF_feed hsd l) C x1 x3 M _ hq
theorem kF_feed {E : EV} (hsd : E.2.2.2 = 0) (l : Launch) {β : Type} : DenOK E l 2 yF_feed prog_1_method_16_code 5 (some .int) true (dF_feed (β := β)) := by
  intro as M k res h
  unfold dF_feed at h
  split at h
  ·
    split at h
    · rename_i hc
      obtain ⟨rfl, rfl, rfl⟩ := hc
      obtain ⟨q, hq, hk⟩ := Option.bind_eq_some_iff.mp h
      exact ⟨aI q.1, q.2, hk, rfl, wF_feed hsd l _ _ M q hq⟩
    · cases h
  · cases h
theorem qF_feed {β : Type} : RecOK 0 (dF_feed (β := β)) := by
  intro as M k res h
  unfold dF_feed at h
  split at h
  ·
    split at h
    · rename_i hc
      obtain ⟨rfl, rfl, rfl⟩ := hc
      exact ⟨_, _, _, rfl⟩
    · cases h
  · cases h
/-! ===== FreeLances.isUse(I)Z ===== -/
abbrev yF_isUse : MethodName := ⟨"FreeLances", "isUse", "(I)Z"⟩
theorem iF_isUse : MI yF_isUse prog_1_method_60_code 1 (some .boolean) 1 := ⟨tw776, tw97, ⟨by decide, by decide⟩, by decide +kernel, by decide, by decide⟩
def cF_isUse : List (Ent (Int32 × Mem)) := [(false, 0, 1, sLdI 0),
  (false, 1, 1, sC 0),
  (false, 2, 1, sC 3),
  (false, 3, 3, sInv 3 true dF_within),
  (false, 6, 1, sRetZ)]
theorem oF_isUse {E : EV} (hsd : E.2.2.2 = 0) (l : Launch) : AllOK E l 2 "FreeLances" prog_1_method_60_code 1 (some .boolean) outI (cF_isUse) := by
  refine ak (ok_iload_n (k := 0) rfl (by decide +kernel)) ?_
  refine ak (ok_iconst (n := 0) (by decide) (by decide +kernel)) ?_
  refine ak (ok_iconst (n := 3) (by decide) (by decide +kernel)) ?_
  refine ak (ok_invS (kF_within hsd l) iF_within tw553 (by decide) tw552 (by decide +kernel)) ?_
  refine ak (ok_zreturn rfl (by decide +kernel)) ?_
  exact trivial
set_option maxRecDepth 1000000 in
theorem eF_isUse (x0 : Int32) (M : Mem) : run (cF_isUse) (fun _ _ _ _ => none) rtI 400 (seek (cF_isUse) 0) [aI x0] [] M = mF_isUse x0 M := id rfl
theorem lF_isUse {E : EV} {l : Launch} {p : Program} {e : Env} {s : State} {m : MethodId} {args : Array Value} {below : List Frame} {meth : Method} {c : Code} (A : AllOK E l 2 "FreeLances" prog_1_method_60_code 1 (some .boolean) outI (cF_isUse)) (C : Cx E p s m args meth c "FreeLances" prog_1_method_60_code 1 (some .boolean)) : ∀ (x0 : Int32) (M : Mem) (res : (Int32 × Mem)), mF_isUse x0 M = some res → Wm E p l e 2 s m args below meth c 1 0 [aI x0] [] M (outI res).1 (outI res).2 := by
  intro x0 M res h
  refine run_at C A rfl hrtI (n := 400) ((eF_isUse x0 M).trans h) ?_
  intro t als st M hk; cases hk
def dF_isUse {β : Type} : Den β := fun as M k => match as with
  | [.inl x0] => (mF_isUse x0 M).bind fun q => k (aI q.1) q.2
  | _ => none
theorem wF_isUse {E : EV} (hsd : E.2.2.2 = 0) (l : Launch) (x0 : Int32) (M : Mem) (q : (Int32 × Mem)) (hq : mF_isUse x0 M = some q) : Con E l 2 yF_isUse prog_1_method_60_code 1 (some .boolean) [aI x0] M (outI q).1 (outI q).2 := by
  refine con_of iF_isUse (Nat.le_of_ble_eq_true rfl) ?_
  intro p e s m args below meth c C
  exact lF_isUse (oF_isUse hsd l) C x0 M _ hq
theorem kF_isUse {E : EV} (hsd : E.2.2.2 = 0) (l : Launch) {β : Type} : DenOK E l 2 yF_isUse prog_1_method_60_code 1 (some .boolean) true (dF_isUse (β := β)) := by
  intro as M k res h
  unfold dF_isUse at h
  split at h
  · obtain ⟨q, hq, hk⟩ := Option.bind_eq_some_iff.mp h
    exact ⟨aI q.1, q.2, hk, rfl, wF_isUse hsd l _ M q hq⟩
  · cases h
/-! ===== FreeLances.isDay(I)Z ===== -/
abbrev yF_isDay : MethodName := ⟨"FreeLances", "isDay", "(I)Z"⟩
theorem iF_isDay : MI yF_isDay prog_1_method_58_code 1 (some .boolean) 1 := ⟨tw779, tw97, ⟨by decide, by decide⟩, by decide +kernel, by decide, by decide⟩
def cF_isDay : List (Ent (Int32 × Mem)) := [(false, 0, 1, sLdI 0),
  (false, 1, 1, sC 0),
  (false, 2, 3, sC 3000),
  (false, 5, 3, sInv 3 true dF_within),
  (false, 8, 1, sRetZ)]
theorem oF_isDay {E : EV} (hsd : E.2.2.2 = 0) (l : Launch) : AllOK E l 2 "FreeLances" prog_1_method_58_code 1 (some .boolean) outI (cF_isDay) := by
  refine ak (ok_iload_n (k := 0) rfl (by decide +kernel)) ?_
  refine ak (ok_iconst (n := 0) (by decide) (by decide +kernel)) ?_
  refine ak (ok_sipush (n := 3000) (by decide) (by decide +kernel)) ?_
  refine ak (ok_invS (kF_within hsd l) iF_within tw553 (by decide) tw552 (by decide +kernel)) ?_
  refine ak (ok_zreturn rfl (by decide +kernel)) ?_
  exact trivial
set_option maxRecDepth 1000000 in
theorem eF_isDay (x0 : Int32) (M : Mem) : run (cF_isDay) (fun _ _ _ _ => none) rtI 400 (seek (cF_isDay) 0) [aI x0] [] M = mF_isDay x0 M := id rfl
theorem lF_isDay {E : EV} {l : Launch} {p : Program} {e : Env} {s : State} {m : MethodId} {args : Array Value} {below : List Frame} {meth : Method} {c : Code} (A : AllOK E l 2 "FreeLances" prog_1_method_58_code 1 (some .boolean) outI (cF_isDay)) (C : Cx E p s m args meth c "FreeLances" prog_1_method_58_code 1 (some .boolean)) : ∀ (x0 : Int32) (M : Mem) (res : (Int32 × Mem)), mF_isDay x0 M = some res → Wm E p l e 2 s m args below meth c 1 0 [aI x0] [] M (outI res).1 (outI res).2 := by
  intro x0 M res h
  refine run_at C A rfl hrtI (n := 400) ((eF_isDay x0 M).trans h) ?_
  intro t als st M hk; cases hk
def dF_isDay {β : Type} : Den β := fun as M k => match as with
  | [.inl x0] => (mF_isDay x0 M).bind fun q => k (aI q.1) q.2
  | _ => none
theorem wF_isDay {E : EV} (hsd : E.2.2.2 = 0) (l : Launch) (x0 : Int32) (M : Mem) (q : (Int32 × Mem)) (hq : mF_isDay x0 M = some q) : Con E l 2 yF_isDay prog_1_method_58_code 1 (some .boolean) [aI x0] M (outI q).1 (outI q).2 := by
  refine con_of iF_isDay (Nat.le_of_ble_eq_true rfl) ?_
  intro p e s m args below meth c C
  exact lF_isDay (oF_isDay hsd l) C x0 M _ hq
theorem kF_isDay {E : EV} (hsd : E.2.2.2 = 0) (l : Launch) {β : Type} : DenOK E l 2 yF_isDay prog_1_method_58_code 1 (some .boolean) true (dF_isDay (β := β)) := by
  intro as M k res h
  unfold dF_isDay at h
  split at h
  · obtain ⟨q, hq, hk⟩ := Option.bind_eq_some_iff.mp h
    exact ⟨aI q.1, q.2, hk, rfl, wF_isDay hsd l _ M q hq⟩
  · cases h
/-! ===== FreeLances$Reader.faultOf([BII)I ===== -/
abbrev yR_faultOf : MethodName := ⟨"FreeLances$Reader", "faultOf", "([BII)I"⟩
theorem iR_faultOf : MI yR_faultOf prog_6_method_3_code 4 (some .int) 3 := ⟨tw783, tw99, ⟨by decide, by decide⟩, by decide +kernel, by decide, by decide⟩
def cR_faultOf : List (Ent (Int32 × Mem)) := [(false, 0, 1, sLdA 0),
  (false, 1, 1, sLdA 1),
  (false, 2, 1, sLdI 2),
  (false, 3, 1, sLdI 3),
  (false, 4, 3, sInv 4 false dR_begin),
  (false, 7, 1, sLdA 0),
  (false, 8, 1, sC 0),
  (false, 9, 3, sInv 2 true (dR_either xR_either)),
  (false, 12, 1, sPop),
  (false, 13, 1, sLdA 0),
  (false, 14, 3, sGet 17 (fun w i M => aI (M 17 w i 7))),
  (false, 17, 3, sIfGe 39),
  (false, 20, 1, sLdA 0),
  (false, 21, 3, sGet 17 (fun w i M => aI (M 17 w i 6))),
  (false, 24, 1, sLdA 0),
  (false, 25, 3, sGet 17 (fun w i M => aI (M 17 w i 1))),
  (false, 28, 3, sCmpGe 39),
  (false, 31, 1, sLdA 0),
  (false, 32, 1, sLdA 0),
  (false, 33, 3, sGet 17 (fun w i M => aI (M 17 w i 6))),
  (false, 36, 3, sPut 17 7),
  (false, 39, 1, sLdA 0),
  (false, 40, 3, sGet 17 (fun w i M => aI (M 17 w i 7))),
  (false, 43, 1, sRetI)]
theorem oR_faultOf {E : EV} (hsd : E.2.2.2 = 0) (l : Launch) : AllOK E l 63 "FreeLances$Reader" prog_6_method_3_code 4 (some .int) outI (cR_faultOf) := by
  refine ak (ok_aload_n (k := 0) rfl (by decide +kernel)) ?_
  refine ak (ok_aload_n (k := 1) rfl (by decide +kernel)) ?_
  refine ak (ok_iload_n (k := 2) rfl (by decide +kernel)) ?_
  refine ak (ok_iload_n (k := 3) rfl (by decide +kernel)) ?_
  refine ak (ok_invV (r := 17) (kR_begin hsd l) qR_begin ck4 kd17 iR_begin tw696 tw5 (by decide) tw694 (by decide +kernel)) ?_
  refine ak (ok_aload_n (k := 0) rfl (by decide +kernel)) ?_
  refine ak (ok_iconst (n := 0) (by decide) (by decide +kernel)) ?_
  refine ak (ok_invV (r := 17) (kxR_either hsd l) (qR_either xR_either) ck4 kd17 iR_either tw701 tw6 (by decide) tw699 (by decide +kernel)) ?_
  refine ak (ok_pop (by decide +kernel)) ?_
  refine ak (ok_aload_n (k := 0) rfl (by decide +kernel)) ?_
  refine ak (ok_get (k := 7) ck4 kd17 (by decide) (fun _ _ _ => rfl) (fun _ _ _ _ _ => trivial) tw149 (by decide +kernel)) ?_
  refine ak (ok_if_ge (off := 22) (by decide) (by decide +kernel)) ?_
  refine ak (ok_aload_n (k := 0) rfl (by decide +kernel)) ?_
  refine ak (ok_get (k := 6) ck4 kd17 (by decide) (fun _ _ _ => rfl) (fun _ _ _ _ _ => trivial) tw148 (by decide +kernel)) ?_
  refine ak (ok_aload_n (k := 0) rfl (by decide +kernel)) ?_
  refine ak (ok_get (k := 1) ck4 kd17 (by decide) (fun _ _ _ => rfl) (fun _ _ _ _ _ => trivial) tw143 (by decide +kernel)) ?_
  refine ak (ok_icmp_ge (off := 11) (by decide) (by decide +kernel)) ?_
  refine ak (ok_aload_n (k := 0) rfl (by decide +kernel)) ?_
  refine ak (ok_aload_n (k := 0) rfl (by decide +kernel)) ?_
  refine ak (ok_get (k := 6) ck4 kd17 (by decide) (fun _ _ _ => rfl) (fun _ _ _ _ _ => trivial) tw148 (by decide +kernel)) ?_
  refine ak (ok_put (k := 7) ck4 kd17 (by decide) (fun _ _ _ => rfl) rfl rfl (by decide) tw149 (by decide +kernel)) ?_
  refine ak (ok_aload_n (k := 0) rfl (by decide +kernel)) ?_
  refine ak (ok_get (k := 7) ck4 kd17 (by decide) (fun _ _ _ => rfl) (fun _ _ _ _ _ => trivial) tw149 (by decide +kernel)) ?_
  refine ak (ok_ireturn rfl (by decide +kernel)) ?_
  exact trivial
set_option maxRecDepth 1000000 in
theorem eR_faultOf (w0 : Nat) (w1 : Nat) (i1 : Nat) (x2 : Int32) (x3 : Int32) (M : Mem) : run (cR_faultOf) (fun _ _ _ _ => none) rtI 400 (seek (cR_faultOf) 0) [aR (17, w0, 0), aR (13, w1, i1), aI x2, aI x3] [] M = mR_faultOf w0 w1 i1 x2 x3 M := id rfl
theorem lR_faultOf {E : EV} {l : Launch} {p : Program} {e : Env} {s : State} {m : MethodId} {args : Array Value} {below : List Frame} {meth : Method} {c : Code} (A : AllOK E l 63 "FreeLances$Reader" prog_6_method_3_code 4 (some .int) outI (cR_faultOf)) (C : Cx E p s m args meth c "FreeLances$Reader" prog_6_method_3_code 4 (some .int)) : ∀ (w0 : Nat) (w1 : Nat) (i1 : Nat) (x2 : Int32) (x3 : Int32) (M : Mem) (res : (Int32 × Mem)), mR_faultOf w0 w1 i1 x2 x3 M = some res → Wm E p l e 63 s m args below meth c 4 0 [aR (17, w0, 0), aR (13, w1, i1), aI x2, aI x3] [] M (outI res).1 (outI res).2 := by
  intro w0 w1 i1 x2 x3 M res h
  refine run_at C A rfl hrtI (n := 400) ((eR_faultOf w0 w1 i1 x2 x3 M).trans h) ?_
  intro t als st M hk; cases hk
def dR_faultOf {β : Type} : Den β := fun as M k => match as with
  | [.inr (.inr (.inl (al0, w0, cl0))), .inr (.inr (.inl (al1, w1, i1))), .inl x2, .inl x3] => if al0 = 17 ∧ cl0 = 0 ∧ al1 = 13 then (mR_faultOf w0 w1 i1 x2 x3 M).bind fun q => k (aI q.1) q.2 else none
  | _ => none
theorem wR_faultOf {E : EV} (hsd : E.2.2.2 = 0) (l : Launch) (w0 : Nat) (w1 : Nat) (i1 : Nat) (x2 : Int32) (x3 : Int32) (M : Mem) (q : (Int32 × Mem)) (hq : mR_faultOf w0 w1 i1 x2 x3 M = some q) : Con E l 63 yR_faultOf prog_6_method_3_code 4 (some .int) [aR (17, w0, 0), aR (13, w1, i1), aI x2, aI x3] M (outI q).1 (outI q).2 := by
  refine con_of iR_faultOf (Nat.le_of_ble_eq_true rfl) ?_
  intro p e s m args below meth c C
  exact lR_faultOf (oR_faultOf hsd l) C w0 w1 i1 x2 x3 M _ hq
theorem kR_faultOf {E : EV} (hsd : E.2.2.2 = 0) (l : Launch) {β : Type} : DenOK E l 63 yR_faultOf prog_6_method_3_code 4 (some .int) true (dR_faultOf (β := β)) := by
  intro as M k res h
  unfold dR_faultOf at h
  split at h
  ·
    split at h
    · rename_i hc
      obtain ⟨rfl, rfl, rfl⟩ := hc
      obtain ⟨q, hq, hk⟩ := Option.bind_eq_some_iff.mp h
      exact ⟨aI q.1, q.2, hk, rfl, wR_faultOf hsd l _ _ _ _ _ M q hq⟩
    · cases h
  · cases h
theorem qR_faultOf {β : Type} : RecOK 17 (dR_faultOf (β := β)) := by
  intro as M k res h
  unfold dR_faultOf at h
  split at h
  ·
    split at h
    · rename_i hc
      obtain ⟨rfl, rfl, rfl⟩ := hc
      exact ⟨_, _, _, rfl⟩
    · cases h
  · cases h
/-! ===== FreeLances$Statute.begin(II[BI)V ===== -/
abbrev yU_begin : MethodName := ⟨"FreeLances$Statute", "begin", "(II[BI)V"⟩
theorem iU_begin : MI yU_begin prog_8_method_2_code 5 none 4 := ⟨tw787, tw103, ⟨by decide, by decide⟩, by decide +kernel, by decide, by decide⟩
def cU_begin : List (Ent Mem) := [(false, 0, 1, sLdA 0),
  (false, 1, 1, sLdI 1),
  (false, 2, 3, sPut 12 0),
  (false, 5, 1, sLdA 0),
  (false, 6, 1, sLdI 2),
  (false, 7, 3, sPut 12 1),
  (false, 10, 1, sLdA 0),
  (false, 11, 2, sLdI 4),
  (false, 13, 3, sPut 12 2),
  (false, 16, 1, sLdA 3),
  (false, 17, 1, sC 0),
  (false, 18, 1, sLdA 0),
  (false, 19, 3, sGet 12 (fun w i M => aR (13, w, i))),
  (false, 22, 1, sC 0),
  (false, 23, 2, sC 50),
  (false, 25, 3, sCopy 13 lenB),
  (false, 28, 1, sRetV)]
theorem oU_begin {E : EV} (hsd : E.2.2.2 = 0) (l : Launch) : AllOK E l 1 "FreeLances$Statute" prog_8_method_2_code 5 none outV (cU_begin) := by
  refine ak (ok_aload_n (k := 0) rfl (by decide +kernel)) ?_
  refine ak (ok_iload_n (k := 1) rfl (by decide +kernel)) ?_
  refine ak (ok_put (k := 0) ck6 kd12 (by decide) (fun _ _ _ => rfl) rfl rfl (by decide) tw301 (by decide +kernel)) ?_
  refine ak (ok_aload_n (k := 0) rfl (by decide +kernel)) ?_
  refine ak (ok_iload_n (k := 2) rfl (by decide +kernel)) ?_
  refine ak (ok_put (k := 1) ck6 kd12 (by decide) (fun _ _ _ => rfl) rfl rfl (by decide) tw304 (by decide +kernel)) ?_
  refine ak (ok_aload_n (k := 0) rfl (by decide +kernel)) ?_
  refine ak (ok_iload (by decide +kernel)) ?_
  refine ak (ok_put (k := 2) ck6 kd12 (by decide) (fun _ _ _ => rfl) rfl rfl (by decide) tw306 (by decide +kernel)) ?_
  refine ak (ok_aload_n (k := 3) rfl (by decide +kernel)) ?_
  refine ak (ok_iconst (n := 0) (by decide) (by decide +kernel)) ?_
  refine ak (ok_aload_n (k := 0) rfl (by decide +kernel)) ?_
  refine ak (ok_get (k := 3) ck6 kd12 (by decide) (fun _ _ _ => rfl) (vf_12_3 hsd) tw308 (by decide +kernel)) ?_
  refine ak (ok_iconst (n := 0) (by decide) (by decide +kernel)) ?_
  refine ak (ok_bipush (n := 50) (by decide) (by decide +kernel)) ?_
  refine ak (ok_copyB (by decide) tw788 tw790 tw789 tw110 (by decide +kernel)) ?_
  refine ak (ok_return rfl (by decide +kernel)) ?_
  exact trivial
set_option maxRecDepth 1000000 in
theorem eU_begin (w0 : Nat) (i0 : Nat) (x1 : Int32) (x2 : Int32) (w3 : Nat) (i3 : Nat) (x4 : Int32) (M : Mem) : run (cU_begin) (fun _ _ _ _ => none) rtV 400 (seek (cU_begin) 0) [aR (12, w0, i0), aI x1, aI x2, aR (13, w3, i3), aI x4] [] M = mU_begin w0 i0 x1 x2 w3 i3 x4 M := id rfl
theorem lU_begin {E : EV} {l : Launch} {p : Program} {e : Env} {s : State} {m : MethodId} {args : Array Value} {below : List Frame} {meth : Method} {c : Code} (A : AllOK E l 1 "FreeLances$Statute" prog_8_method_2_code 5 none outV (cU_begin)) (C : Cx E p s m args meth c "FreeLances$Statute" prog_8_method_2_code 5 none) : ∀ (w0 : Nat) (i0 : Nat) (x1 : Int32) (x2 : Int32) (w3 : Nat) (i3 : Nat) (x4 : Int32) (M : Mem) (res : Mem), mU_begin w0 i0 x1 x2 w3 i3 x4 M = some res → Wm E p l e 1 s m args below meth c 5 0 [aR (12, w0, i0), aI x1, aI x2, aR (13, w3, i3), aI x4] [] M (outV res).1 (outV res).2 := by
  intro w0 i0 x1 x2 w3 i3 x4 M res h
  refine run_at C A rfl hrtV (n := 400) ((eU_begin w0 i0 x1 x2 w3 i3 x4 M).trans h) ?_
  intro t als st M hk; cases hk
def dU_begin {β : Type} : Den β := fun as M k => match as with
  | [.inr (.inr (.inl (al0, w0, i0))), .inl x1, .inl x2, .inr (.inr (.inl (al3, w3, i3))), .inl x4] => if al0 = 12 ∧ al3 = 13 then (mU_begin w0 i0 x1 x2 w3 i3 x4 M).bind fun q => k aU q else none
  | _ => none
theorem wU_begin {E : EV} (hsd : E.2.2.2 = 0) (l : Launch) (w0 : Nat) (i0 : Nat) (x1 : Int32) (x2 : Int32) (w3 : Nat) (i3 : Nat) (x4 : Int32) (M : Mem) (q : Mem) (hq : mU_begin w0 i0 x1 x2 w3 i3 x4 M = some q) : Con E l 1 yU_begin prog_8_method_2_code 5 none [aR (12, w0, i0), aI x1, aI x2, aR (13, w3, i3), aI x4] M (outV q).1 (outV q).2 := by
  refine con_of iU_begin (Nat.le_of_ble_eq_true rfl) ?_
  intro p e s m args below meth c C
  exact lU_begin (oU_begin hsd l) C w0 i0 x1 x2 w3 i3 x4 M _ hq
theorem kU_begin {E : EV} (hsd : E.2.2.2 = 0) (l : Launch) {β : Type} : DenOK E l 1 yU_begin prog_8_method_2_code 5 none false (dU_begin (β := β)) := by
  intro as M k res h
  unfold dU_begin at h
  split at h
  ·
    split at h
    · rename_i hc
      obtain ⟨rfl, rfl⟩ := hc
      obtain ⟨q, hq, hk⟩ := Option.bind_eq_some_iff.mp h
      exact ⟨aU, q, hk, rfl, wU_begin hsd l _ _ _ _ _ _ _ M q hq⟩
    · cases h
  · cases h
theorem qU_begin {β : Type} : RecOK 12 (dU_begin (β := β)) := by
  intro as M k res h
  unfold dU_begin at h
  split at h
  ·
    split at h
    · rename_i hc
      obtain ⟨rfl, rfl⟩ := hc
      exact ⟨_, _, _, rfl⟩
    · cases h
  · cases h
/-! ===== FreeLances.statute(II)I ===== -/
abbrev yF_statute : MethodName := ⟨"FreeLances", "statute", "(II)I"⟩
theorem iF_statute : MI yF_statute prog_1_method_17_code 5 (some .int) 2 := ⟨tw773, tw97, ⟨by decide, by decide⟩, by decide +kernel, by decide, by decide⟩
def cF_statute : List (Ent (Int32 × Mem)) := [(false, 0, 1, sLdI 1),
  (false, 1, 3, sInv 1 true dF_isUse),
  (false, 4, 3, sIfEq 14),
  (false, 7, 1, sLdI 2),
  (false, 8, 3, sInv 1 true dF_isDay),
  (false, 11, 3, sIfNe 20),
  (false, 14, 1, sLdA 0),
  (false, 15, 1, sC 1),
  (false, 16, 3, sInv 2 true dF_finding),
  (false, 19, 1, sRetI),
  (false, 20, 1, sLdA 0),
  (false, 21, 3, sGet 0 (fun w i M => aR (1, 0, 0))),
  (false, 24, 3, sGet 1 (fun w i M => aI (M 1 w i 10))),
  (false, 27, 2, sC 12),
  (false, 29, 3, sCmpLt 38),
  (false, 32, 1, sLdA 0),
  (false, 33, 1, sC 4),
  (false, 34, 3, sInv 2 true dF_finding),
  (false, 37, 1, sRetI),
  (false, 38, 1, sLdA 0),
  (false, 39, 3, sGet 0 (fun w i M => aR (1, 0, 0))),
  (false, 42, 3, sGet 1 (fun w i M => aI (M 1 w i 14))),
  (false, 45, 1, sStI 3),
  (false, 46, 1, sLdA 0),
  (false, 47, 3, sGet 0 (fun w i M => aR (1, 0, 0))),
  (false, 50, 1, sC 0),
  (false, 51, 3, sPut 1 14),
  (false, 54, 1, sLdA 0),
  (false, 55, 3, sGet 0 (fun w i M => aR (1, 0, 0))),
  (false, 58, 3, sGet 1 (fun w i M => aR (17, w, 0))),
  (false, 61, 1, sLdA 0),
  (false, 62, 3, sGet 0 (fun w i M => aR (1, 0, 0))),
  (false, 65, 3, sGet 1 (fun w i M => aR (13, w, 12))),
  (false, 68, 1, sLdI 3),
  (false, 69, 1, sLdI 1),
  (false, 70, 3, sInv 4 true dR_faultOf),
  (false, 73, 2, sStI 4),
  (false, 75, 2, sLdI 4),
  (false, 77, 3, sIfLt 86),
  (false, 80, 2, sC (-10)),
  (false, 82, 2, sLdI 4),
  (false, 84, 1, sBin (fun x y => x - y)),
  (false, 85, 1, sRetI),
  (false, 86, 1, sLdA 0),
  (false, 87, 3, sGet 0 (fun w i M => aR (1, 0, 0))),
  (false, 90, 3, sGet 1 (fun w i M => aR (11, w, 0))),
  (false, 93, 1, sLdA 0),
  (false, 94, 3, sGet 0 (fun w i M => aR (1, 0, 0))),
  (false, 97, 3, sGet 1 (fun w i M => aI (M 1 w i 10))),
  (false, 100, 1, sAald 11 12 12),
  (false, 101, 1, sLdI 1),
  (false, 102, 1, sLdI 2),
  (false, 103, 1, sLdA 0),
  (false, 104, 3, sGet 0 (fun w i M => aR (1, 0, 0))),
  (false, 107, 3, sGet 1 (fun w i M => aR (13, w, 12))),
  (false, 110, 1, sLdI 3),
  (false, 111, 3, sInv 5 false dU_begin),
  (false, 114, 1, sLdA 0),
  (false, 115, 3, sGet 0 (fun w i M => aR (1, 0, 0))),
  (false, 118, 1, sDup),
  (false, 119, 3, sGet 1 (fun w i M => aI (M 1 w i 10))),
  (false, 122, 1, sDupX1),
  (false, 123, 1, sC 1),
  (false, 124, 1, sBin (fun x y => x + y)),
  (false, 125, 3, sPut 1 10),
  (false, 128, 1, sRetI)]
theorem oF_statute {E : EV} (hsd : E.2.2.2 = 0) (l : Launch) : AllOK E l 64 "FreeLances" prog_1_method_17_code 5 (some .int) outI (cF_statute) := by
  refine ak (ok_iload_n (k := 1) rfl (by decide +kernel)) ?_
  refine ak (ok_invS (kF_isUse hsd l) iF_isUse tw775 (by decide) tw774 (by decide +kernel)) ?_
  refine ak (ok_if_eq (off := 10) (by decide) (by decide +kernel)) ?_
  refine ak (ok_iload_n (k := 2) rfl (by decide +kernel)) ?_
  refine ak (ok_invS (kF_isDay hsd l) iF_isDay tw778 (by decide) tw777 (by decide +kernel)) ?_
  refine ak (ok_if_ne (off := 9) (by decide) (by decide +kernel)) ?_
  refine ak (ok_aload_n (k := 0) rfl (by decide +kernel)) ?_
  refine ak (ok_iconst (n := 1) (by decide) (by decide +kernel)) ?_
  refine ak (ok_invV (r := 0) (kF_finding hsd l) qF_finding ck10 kd0 iF_finding tw557 tw0 (by decide) tw555 (by decide +kernel)) ?_
  refine ak (ok_ireturn rfl (by decide +kernel)) ?_
  refine ak (ok_aload_n (k := 0) rfl (by decide +kernel)) ?_
  refine ak (ok_get (k := 0) ck10 kd0 (by decide) (fun _ _ _ => rfl) (vf_0_0 hsd) tw522 (by decide +kernel)) ?_
  refine ak (ok_get (k := 10) ck9 kd1 (by decide) (fun _ _ _ => rfl) (fun _ _ _ _ _ => trivial) tw409 (by decide +kernel)) ?_
  refine ak (ok_bipush (n := 12) (by decide) (by decide +kernel)) ?_
  refine ak (ok_icmp_lt (off := 9) (by decide) (by decide +kernel)) ?_
  refine ak (ok_aload_n (k := 0) rfl (by decide +kernel)) ?_
  refine ak (ok_iconst (n := 4) (by decide) (by decide +kernel)) ?_
  refine ak (ok_invV (r := 0) (kF_finding hsd l) qF_finding ck10 kd0 iF_finding tw557 tw0 (by decide) tw555 (by decide +kernel)) ?_
  refine ak (ok_ireturn rfl (by decide +kernel)) ?_
  refine ak (ok_aload_n (k := 0) rfl (by decide +kernel)) ?_
  refine ak (ok_get (k := 0) ck10 kd0 (by decide) (fun _ _ _ => rfl) (vf_0_0 hsd) tw522 (by decide +kernel)) ?_
  refine ak (ok_get (k := 14) ck9 kd1 (by decide) (fun _ _ _ => rfl) (fun _ _ _ _ _ => trivial) tw417 (by decide +kernel)) ?_
  refine ak (ok_istore_n (k := 3) rfl (by decide) (by decide +kernel)) ?_
  refine ak (ok_aload_n (k := 0) rfl (by decide +kernel)) ?_
  refine ak (ok_get (k := 0) ck10 kd0 (by decide) (fun _ _ _ => rfl) (vf_0_0 hsd) tw522 (by decide +kernel)) ?_
  refine ak (ok_iconst (n := 0) (by decide) (by decide +kernel)) ?_
  refine ak (ok_put (k := 14) ck9 kd1 (by decide) (fun _ _ _ => rfl) rfl rfl (by decide) tw417 (by decide +kernel)) ?_
  refine ak (ok_aload_n (k := 0) rfl (by decide +kernel)) ?_
  refine ak (ok_get (k := 0) ck10 kd0 (by decide) (fun _ _ _ => rfl) (vf_0_0 hsd) tw522 (by decide +kernel)) ?_
  refine ak (ok_get (k := 17) ck9 kd1 (by decide) (fun _ _ _ => rfl) (vf_1_17 hsd) tw423 (by decide +kernel)) ?_
  refine ak (ok_aload_n (k := 0) rfl (by decide +kernel)) ?_
  refine ak (ok_get (k := 0) ck10 kd0 (by decide) (fun _ _ _ => rfl) (vf_0_0 hsd) tw522 (by decide +kernel)) ?_
  refine ak (ok_get (k := 13) ck9 kd1 (by decide) (fun _ _ _ => rfl) (vf_1_13 hsd) tw415 (by decide +kernel)) ?_
  refine ak (ok_iload_n (k := 3) rfl (by decide +kernel)) ?_
  refine ak (ok_iload_n (k := 1) rfl (by decide +kernel)) ?_
  refine ak (ok_invV (r := 17) (kR_faultOf hsd l) qR_faultOf ck4 kd17 iR_faultOf tw781 tw782 (by decide) tw780 (by decide +kernel)) ?_
  refine ak (ok_istore (by decide) (by decide +kernel)) ?_
  refine ak (ok_iload (by decide +kernel)) ?_
  refine ak (ok_if_lt (off := 9) (by decide) (by decide +kernel)) ?_
  refine ak (ok_bipush (n := (-10)) (by decide) (by decide +kernel)) ?_
  refine ak (ok_iload (by decide +kernel)) ?_
  refine ak (ok_isub (by decide +kernel)) ?_
  refine ak (ok_ireturn rfl (by decide +kernel)) ?_
  refine ak (ok_aload_n (k := 0) rfl (by decide +kernel)) ?_
  refine ak (ok_get (k := 0) ck10 kd0 (by decide) (fun _ _ _ => rfl) (vf_0_0 hsd) tw522 (by decide +kernel)) ?_
  refine ak (ok_get (k := 9) ck9 kd1 (by decide) (fun _ _ _ => rfl) (vf_1_9 hsd) tw407 (by decide +kernel)) ?_
  refine ak (ok_aload_n (k := 0) rfl (by decide +kernel)) ?_
  refine ak (ok_get (k := 0) ck10 kd0 (by decide) (fun _ _ _ => rfl) (vf_0_0 hsd) tw522 (by decide +kernel)) ?_
  refine ak (ok_get (k := 10) ck9 kd1 (by decide) (fun _ _ _ => rfl) (fun _ _ _ _ _ => trivial) tw409 (by decide +kernel)) ?_
  refine ak (ok_aald (t0 := 5) (C := RX6) kd11 (by decide) rfl (vr_11 hsd) (by decide +kernel)) ?_
  refine ak (ok_iload_n (k := 1) rfl (by decide +kernel)) ?_
  refine ak (ok_iload_n (k := 2) rfl (by decide +kernel)) ?_
  refine ak (ok_aload_n (k := 0) rfl (by decide +kernel)) ?_
  refine ak (ok_get (k := 0) ck10 kd0 (by decide) (fun _ _ _ => rfl) (vf_0_0 hsd) tw522 (by decide +kernel)) ?_
  refine ak (ok_get (k := 13) ck9 kd1 (by decide) (fun _ _ _ => rfl) (vf_1_13 hsd) tw415 (by decide +kernel)) ?_
  refine ak (ok_iload_n (k := 3) rfl (by decide +kernel)) ?_
  refine ak (ok_invV (r := 12) (kU_begin hsd l) qU_begin ck6 kd12 iU_begin tw785 tw786 (by decide) tw784 (by decide +kernel)) ?_
  refine ak (ok_aload_n (k := 0) rfl (by decide +kernel)) ?_
  refine ak (ok_get (k := 0) ck10 kd0 (by decide) (fun _ _ _ => rfl) (vf_0_0 hsd) tw522 (by decide +kernel)) ?_
  refine ak (ok_dup (by decide +kernel)) ?_
  refine ak (ok_get (k := 10) ck9 kd1 (by decide) (fun _ _ _ => rfl) (fun _ _ _ _ _ => trivial) tw409 (by decide +kernel)) ?_
  refine ak (ok_dup_x1 (by decide +kernel)) ?_
  refine ak (ok_iconst (n := 1) (by decide) (by decide +kernel)) ?_
  refine ak (ok_iadd (by decide +kernel)) ?_
  refine ak (ok_put (k := 10) ck9 kd1 (by decide) (fun _ _ _ => rfl) rfl rfl (by decide) tw409 (by decide +kernel)) ?_
  refine ak (ok_ireturn rfl (by decide +kernel)) ?_
  exact trivial
set_option maxRecDepth 1000000 in
theorem eF_statute (x1 : Int32) (x2 : Int32) (M : Mem) : run (cF_statute) (fun _ _ _ _ => none) rtI 400 (seek (cF_statute) 0) [aR (0, 0, 0), aI x1, aI x2, aU, aU] [] M = mF_statute x1 x2 M := id rfl
theorem lF_statute {E : EV} {l : Launch} {p : Program} {e : Env} {s : State} {m : MethodId} {args : Array Value} {below : List Frame} {meth : Method} {c : Code} (A : AllOK E l 64 "FreeLances" prog_1_method_17_code 5 (some .int) outI (cF_statute)) (C : Cx E p s m args meth c "FreeLances" prog_1_method_17_code 5 (some .int)) : ∀ (x1 : Int32) (x2 : Int32) (M : Mem) (res : (Int32 × Mem)), mF_statute x1 x2 M = some res → Wm E p l e 64 s m args below meth c 5 0 [aR (0, 0, 0), aI x1, aI x2, aU, aU] [] M (outI res).1 (outI res).2 := by
  intro x1 x2 M res h
  refine run_at C A rfl hrtI (n := 400) ((eF_statute x1 x2 M).trans h) ?_
  intro t als st M hk; cases hk
def dF_statute {β : Type} : Den β := fun as M k => match as with
  | [.inr (.inr (.inl (al0, bl0, cl0))), .inl x1, .inl x2] => if al0 = 0 ∧ bl0 = 0 ∧ cl0 = 0 then (mF_statute x1 x2 M).bind fun q => k (aI q.1) q.2 else none
  | _ => none
theorem wF_statute {E : EV} (hsd : E.2.2.2 = 0) (l : Launch) (x1 : Int32) (x2 : Int32) (M : Mem) (q : (Int32 × Mem)) (hq : mF_statute x1 x2 M = some q) : Con E l 64 yF_statute prog_1_method_17_code 5 (some .int) [aR (0, 0, 0), aI x1, aI x2] M (outI q).1 (outI q).2 := by
  refine con_of iF_statute (Nat.le_of_ble_eq_true rfl) ?_
  intro p e s m args below meth c C
  exact lF_statute (oF_statute hsd l) C x1 x2 M _ hq
theorem kF_statute {E : EV} (hsd : E.2.2.2 = 0) (l : Launch) {β : Type} : DenOK E l 64 yF_statute prog_1_method_17_code 5 (some .int) true (dF_statute (β := β)) := by
  intro as M k res h
  unfold dF_statute at h
  split at h
  ·
    split at h
    · rename_i hc
      obtain ⟨rfl, rfl, rfl⟩ := hc
      obtain ⟨q, hq, hk⟩ := Option.bind_eq_some_iff.mp h
      exact ⟨aI q.1, q.2, hk, rfl, wF_statute hsd l _ _ M q hq⟩
    · cases h
  · cases h
theorem qF_statute {β : Type} : RecOK 0 (dF_statute (β := β)) := by
  intro as M k res h
  unfold dF_statute at h
  split at h
  ·
    split at h
    · rename_i hc
      obtain ⟨rfl, rfl, rfl⟩ := hc
      exact ⟨_, _, _, rfl⟩
    · cases h
  · cases h
