/-! ===== FreeLances.force(II)I ===== -/
abbrev yF_force : MethodName := ⟨"FreeLances", "force", "(II)I"⟩
theorem iF_force : MI yF_force prog_1_method_18_code 4 (some .int) 2 := ⟨tw794, tw97, ⟨by decide, by decide⟩, by decide +kernel, by decide, by decide⟩
def cF_force : List (Ent (Int32 × Mem)) := [(false, 0, 1, sLdI 1),
  (false, 1, 3, sInv 1 true dF_isUse),
  (false, 4, 3, sIfEq 14),
  (false, 7, 1, sLdI 2),
  (false, 8, 3, sInv 1 true dF_isDay),
  (false, 11, 3, sIfNe 20),
  (false, 14, 1, sLdA 0),
  (false, 15, 1, sC 1),
  (false, 16, 3, sInv 2 true dF_finding),
  (false, 19, 1, sRetI),
  (false, 20, 1, sLdA 0),
  (false, 21, 3, sGet 0 (fun w i M => aR (1, 0, 0))),
  (false, 24, 1, sLdI 1),
  (false, 25, 1, sLdI 2),
  (false, 26, 3, sInv 3 true dW_inForce),
  (false, 29, 1, sStI 3),
  (false, 30, 1, sLdI 3),
  (false, 31, 3, sIfGe 42),
  (false, 34, 1, sLdA 0),
  (false, 35, 1, sC 2),
  (false, 36, 3, sInv 2 true dF_finding),
  (false, 39, 3, sGoto 43),
  (false, 42, 1, sLdI 3),
  (false, 43, 1, sRetI)]
theorem oF_force {E : EV} (hsd : E.2.2.2 = 0) (l : Launch) : AllOK E l 3 "FreeLances" prog_1_method_18_code 4 (some .int) outI (cF_force) := by
  refine ak (ok_iload_n (k := 1) rfl (by decide +kernel)) ?_
  refine ak (ok_invS (kF_isUse hsd l) iF_isUse tw775 (by decide) tw774 (by decide +kernel)) ?_
  refine ak (ok_if_eq (off := 10) (by decide) (by decide +kernel)) ?_
  refine ak (ok_iload_n (k := 2) rfl (by decide +kernel)) ?_
  refine ak (ok_invS (kF_isDay hsd l) iF_isDay tw778 (by decide) tw777 (by decide +kernel)) ?_
  refine ak (ok_if_ne (off := 9) (by decide) (by decide +kernel)) ?_
  refine ak (ok_aload_n (k := 0) rfl (by decide +kernel)) ?_
  refine ak (ok_iconst (n := 1) (by decide) (by decide +kernel)) ?_
  refine ak (ok_invV (r := 0) (kF_finding hsd l) qF_finding ck10 kd0 iF_finding tw557 tw0 (by decide) tw555 (by decide +kernel)) ?_
  refine ak (ok_ireturn rfl (by decide +kernel)) ?_
  refine ak (ok_aload_n (k := 0) rfl (by decide +kernel)) ?_
  refine ak (ok_get (k := 0) ck10 kd0 (by decide) (fun _ _ _ => rfl) (vf_0_0 hsd) tw522 (by decide +kernel)) ?_
  refine ak (ok_iload_n (k := 1) rfl (by decide +kernel)) ?_
  refine ak (ok_iload_n (k := 2) rfl (by decide +kernel)) ?_
  refine ak (ok_invV (r := 1) (kW_inForce hsd l) qW_inForce ck9 kd1 iW_inForce tw687 tw688 (by decide) tw795 (by decide +kernel)) ?_
  refine ak (ok_istore_n (k := 3) rfl (by decide) (by decide +kernel)) ?_
  refine ak (ok_iload_n (k := 3) rfl (by decide +kernel)) ?_
  refine ak (ok_if_ge (off := 11) (by decide) (by decide +kernel)) ?_
  refine ak (ok_aload_n (k := 0) rfl (by decide +kernel)) ?_
  refine ak (ok_iconst (n := 2) (by decide) (by decide +kernel)) ?_
  refine ak (ok_invV (r := 0) (kF_finding hsd l) qF_finding ck10 kd0 iF_finding tw557 tw0 (by decide) tw555 (by decide +kernel)) ?_
  refine ak (ok_goto (off := 4) (by decide) (by decide +kernel)) ?_
  refine ak (ok_iload_n (k := 3) rfl (by decide +kernel)) ?_
  refine ak (ok_ireturn rfl (by decide +kernel)) ?_
  exact trivial
set_option maxRecDepth 1000000 in
theorem eF_force (x1 : Int32) (x2 : Int32) (M : Mem) : run (cF_force) (fun _ _ _ _ => none) rtI 400 (seek (cF_force) 0) [aR (0, 0, 0), aI x1, aI x2, aU] [] M = mF_force x1 x2 M := id rfl
theorem lF_force {E : EV} {l : Launch} {p : Program} {e : Env} {s : State} {m : MethodId} {args : Array Value} {below : List Frame} {meth : Method} {c : Code} (A : AllOK E l 3 "FreeLances" prog_1_method_18_code 4 (some .int) outI (cF_force)) (C : Cx E p s m args meth c "FreeLances" prog_1_method_18_code 4 (some .int)) : ∀ (x1 : Int32) (x2 : Int32) (M : Mem) (res : (Int32 × Mem)), mF_force x1 x2 M = some res → Wm E p l e 3 s m args below meth c 4 0 [aR (0, 0, 0), aI x1, aI x2, aU] [] M (outI res).1 (outI res).2 := by
  intro x1 x2 M res h
  refine run_at C A rfl hrtI (n := 400) ((eF_force x1 x2 M).trans h) ?_
  intro t als st M hk; cases hk
def dF_force {β : Type} : Den β := fun as M k => match as with
  | [.inr (.inr (.inl (al0, bl0, cl0))), .inl x1, .inl x2] => if al0 = 0 ∧ bl0 = 0 ∧ cl0 = 0 then (mF_force x1 x2 M).bind fun q => k (aI q.1) q.2 else none
  | _ => none
theorem wF_force {E : EV} (hsd : E.2.2.2 = 0) (l : Launch) (x1 : Int32) (x2 : Int32) (M : Mem) (q : (Int32 × Mem)) (hq : mF_force x1 x2 M = some q) : Con E l 3 yF_force prog_1_method_18_code 4 (some .int) [aR (0, 0, 0), aI x1, aI x2] M (outI q).1 (outI q).2 := by
  refine con_of iF_force (Nat.le_of_ble_eq_true rfl) ?_
  intro p e s m args below meth c C
  exact lF_force (oF_force hsd l) C x1 x2 M _ hq
theorem kF_force {E : EV} (hsd : E.2.2.2 = 0) (l : Launch) {β : Type} : DenOK E l 3 yF_force prog_1_method_18_code 4 (some .int) true (dF_force (β := β)) := by
  intro as M k res h
  unfold dF_force at h
  split at h
  ·
    split at h
    · rename_i hc
      obtain ⟨rfl, rfl, rfl⟩ := hc
      obtain ⟨q, hq, hk⟩ := Option.bind_eq_some_iff.mp h
      exact ⟨aI q.1, q.2, hk, rfl, wF_force hsd l _ _ M q hq⟩
    · cases h
  · cases h
theorem qF_force {β : Type} : RecOK 0 (dF_force (β := β)) := by
  intro as M k res h
  unfold dF_force at h
  split at h
  ·
    split at h
    · rename_i hc
      obtain ⟨rfl, rfl, rfl⟩ := hc
      exact ⟨_, _, _, rfl⟩
    · cases h
  · cases h
/-! ===== FreeLances.says(IIII)I ===== -/
abbrev yF_says : MethodName := ⟨"FreeLances", "says", "(IIII)I"⟩
theorem iF_says : MI yF_says prog_1_method_19_code 5 (some .int) 4 := ⟨tw799, tw97, ⟨by decide, by decide⟩, by decide +kernel, by decide, by decide⟩
def cF_says : List (Ent (Int32 × Mem)) := [(false, 0, 1, sLdI 1),
  (false, 1, 1, sC 0),
  (false, 2, 1, sLdA 0),
  (false, 3, 3, sGet 0 (fun w i M => aR (1, 0, 0))),
  (false, 6, 3, sGet 1 (fun w i M => aI (M 1 w i 10))),
  (false, 9, 1, sC 1),
  (false, 10, 1, sBin (fun x y => x - y)),
  (false, 11, 3, sInv 3 true dF_within),
  (false, 14, 3, sIfNe 23),
  (false, 17, 1, sLdA 0),
  (false, 18, 1, sC 1),
  (false, 19, 3, sInv 2 true dF_finding),
  (false, 22, 1, sRetI),
  (false, 23, 1, sLdA 0),
  (false, 24, 3, sGet 0 (fun w i M => aR (1, 0, 0))),
  (false, 27, 3, sGet 1 (fun w i M => aR (17, w, 0))),
  (false, 30, 1, sLdA 0),
  (false, 31, 3, sGet 0 (fun w i M => aR (1, 0, 0))),
  (false, 34, 3, sGet 1 (fun w i M => aR (11, w, 0))),
  (false, 37, 1, sLdI 1),
  (false, 38, 1, sAald 11 12 12),
  (false, 39, 1, sLdI 2),
  (false, 40, 1, sLdI 3),
  (false, 41, 2, sLdI 4),
  (false, 43, 3, sInv 5 true dR_workOut),
  (false, 46, 1, sRetI)]
theorem oF_says {E : EV} (hsd : E.2.2.2 = 0) (l : Launch) : AllOK E l 64 "FreeLances" prog_1_method_19_code 5 (some .int) outI (cF_says) := by
  refine ak (ok_iload_n (k := 1) rfl (by decide +kernel)) ?_
  refine ak (ok_iconst (n := 0) (by decide) (by decide +kernel)) ?_
  refine ak (ok_aload_n (k := 0) rfl (by decide +kernel)) ?_
  refine ak (ok_get (k := 0) ck10 kd0 (by decide) (fun _ _ _ => rfl) (vf_0_0 hsd) tw522 (by decide +kernel)) ?_
  refine ak (ok_get (k := 10) ck9 kd1 (by decide) (fun _ _ _ => rfl) (fun _ _ _ _ _ => trivial) tw409 (by decide +kernel)) ?_
  refine ak (ok_iconst (n := 1) (by decide) (by decide +kernel)) ?_
  refine ak (ok_isub (by decide +kernel)) ?_
  refine ak (ok_invS (kF_within hsd l) iF_within tw553 (by decide) tw552 (by decide +kernel)) ?_
  refine ak (ok_if_ne (off := 9) (by decide) (by decide +kernel)) ?_
  refine ak (ok_aload_n (k := 0) rfl (by decide +kernel)) ?_
  refine ak (ok_iconst (n := 1) (by decide) (by decide +kernel)) ?_
  refine ak (ok_invV (r := 0) (kF_finding hsd l) qF_finding ck10 kd0 iF_finding tw557 tw0 (by decide) tw555 (by decide +kernel)) ?_
  refine ak (ok_ireturn rfl (by decide +kernel)) ?_
  refine ak (ok_aload_n (k := 0) rfl (by decide +kernel)) ?_
  refine ak (ok_get (k := 0) ck10 kd0 (by decide) (fun _ _ _ => rfl) (vf_0_0 hsd) tw522 (by decide +kernel)) ?_
  refine ak (ok_get (k := 17) ck9 kd1 (by decide) (fun _ _ _ => rfl) (vf_1_17 hsd) tw423 (by decide +kernel)) ?_
  refine ak (ok_aload_n (k := 0) rfl (by decide +kernel)) ?_
  refine ak (ok_get (k := 0) ck10 kd0 (by decide) (fun _ _ _ => rfl) (vf_0_0 hsd) tw522 (by decide +kernel)) ?_
  refine ak (ok_get (k := 9) ck9 kd1 (by decide) (fun _ _ _ => rfl) (vf_1_9 hsd) tw407 (by decide +kernel)) ?_
  refine ak (ok_iload_n (k := 1) rfl (by decide +kernel)) ?_
  refine ak (ok_aald (t0 := 5) (C := RX6) kd11 (by decide) rfl (vr_11 hsd) (by decide +kernel)) ?_
  refine ak (ok_iload_n (k := 2) rfl (by decide +kernel)) ?_
  refine ak (ok_iload_n (k := 3) rfl (by decide +kernel)) ?_
  refine ak (ok_iload (by decide +kernel)) ?_
  refine ak (ok_invV (r := 17) (kR_workOut hsd l) qR_workOut ck4 kd17 iR_workOut tw691 tw692 (by decide) tw800 (by decide +kernel)) ?_
  refine ak (ok_ireturn rfl (by decide +kernel)) ?_
  exact trivial
set_option maxRecDepth 1000000 in
theorem eF_says (x1 : Int32) (x2 : Int32) (x3 : Int32) (x4 : Int32) (M : Mem) : run (cF_says) (fun _ _ _ _ => none) rtI 400 (seek (cF_says) 0) [aR (0, 0, 0), aI x1, aI x2, aI x3, aI x4] [] M = mF_says x1 x2 x3 x4 M := id rfl
theorem lF_says {E : EV} {l : Launch} {p : Program} {e : Env} {s : State} {m : MethodId} {args : Array Value} {below : List Frame} {meth : Method} {c : Code} (A : AllOK E l 64 "FreeLances" prog_1_method_19_code 5 (some .int) outI (cF_says)) (C : Cx E p s m args meth c "FreeLances" prog_1_method_19_code 5 (some .int)) : ∀ (x1 : Int32) (x2 : Int32) (x3 : Int32) (x4 : Int32) (M : Mem) (res : (Int32 × Mem)), mF_says x1 x2 x3 x4 M = some res → Wm E p l e 64 s m args below meth c 5 0 [aR (0, 0, 0), aI x1, aI x2, aI x3, aI x4] [] M (outI res).1 (outI res).2 := by
  intro x1 x2 x3 x4 M res h
  refine run_at C A rfl hrtI (n := 400) ((eF_says x1 x2 x3 x4 M).trans h) ?_
  intro t als st M hk; cases hk
def dF_says {β : Type} : Den β := fun as M k => match as with
  | [.inr (.inr (.inl (al0, bl0, cl0))), .inl x1, .inl x2, .inl x3, .inl x4] => if al0 = 0 ∧ bl0 = 0 ∧ cl0 = 0 then (mF_says x1 x2 x3 x4 M).bind fun q => k (aI q.1) q.2 else none
  | _ => none
theorem wF_says {E : EV} (hsd : E.2.2.2 = 0) (l : Launch) (x1 : Int32) (x2 : Int32) (x3 : Int32) (x4 : Int32) (M : Mem) (q : (Int32 × Mem)) (hq : mF_says x1 x2 x3 x4 M = some q) : Con E l 64 yF_says prog_1_method_19_code 5 (some .int) [aR (0, 0, 0), aI x1, aI x2, aI x3, aI x4] M (outI q).1 (outI q).2 := by
  refine con_of iF_says (Nat.le_of_ble_eq_true rfl) ?_
  intro p e s m args below meth c C
  exact lF_says (oF_says hsd l) C x1 x2 x3 x4 M _ hq
theorem kF_says {E : EV} (hsd : E.2.2.2 = 0) (l : Launch) {β : Type} : DenOK E l 64 yF_says prog_1_method_19_code 5 (some .int) true (dF_says (β := β)) := by
  intro as M k res h
  unfold dF_says at h
  split at h
  ·
    split at h
    · rename_i hc
      obtain ⟨rfl, rfl, rfl⟩ := hc
      obtain ⟨q, hq, hk⟩ := Option.bind_eq_some_iff.mp h
      exact ⟨aI q.1, q.2, hk, rfl, wF_says hsd l _ _ _ _ M q hq⟩
    · cases h
  · cases h
theorem qF_says {β : Type} : RecOK 0 (dF_says (β := β)) := by
  intro as M k res h
  unfold dF_says at h
  split at h
  ·
    split at h
    · rename_i hc
      obtain ⟨rfl, rfl, rfl⟩ := hc
      exact ⟨_, _, _, rfl⟩
    · cases h
  · cases h
/-! ===== FreeLances.areDays(II)Z ===== -/
abbrev yF_areDays : MethodName := ⟨"FreeLances", "areDays", "(II)Z"⟩
theorem iF_areDays : MI yF_areDays prog_1_method_59_code 2 (some .boolean) 2 := ⟨tw807, tw97, ⟨by decide, by decide⟩, by decide +kernel, by decide, by decide⟩
def cF_areDays : List (Ent (Int32 × Mem)) := [(false, 0, 1, sLdI 0),
  (false, 1, 3, sInv 1 true dF_isDay),
  (false, 4, 3, sIfEq 23),
  (false, 7, 1, sLdI 1),
  (false, 8, 3, sInv 1 true dF_isDay),
  (false, 11, 3, sIfEq 23),
  (false, 14, 1, sLdI 0),
  (false, 15, 1, sLdI 1),
  (false, 16, 3, sCmpGt 23),
  (false, 19, 1, sC 1),
  (false, 20, 3, sGoto 24),
  (false, 23, 1, sC 0),
  (false, 24, 1, sRetZ)]
theorem oF_areDays {E : EV} (hsd : E.2.2.2 = 0) (l : Launch) : AllOK E l 3 "FreeLances" prog_1_method_59_code 2 (some .boolean) outI (cF_areDays) := by
  refine ak (ok_iload_n (k := 0) rfl (by decide +kernel)) ?_
  refine ak (ok_invS (kF_isDay hsd l) iF_isDay tw778 (by decide) tw777 (by decide +kernel)) ?_
  refine ak (ok_if_eq (off := 19) (by decide) (by decide +kernel)) ?_
  refine ak (ok_iload_n (k := 1) rfl (by decide +kernel)) ?_
  refine ak (ok_invS (kF_isDay hsd l) iF_isDay tw778 (by decide) tw777 (by decide +kernel)) ?_
  refine ak (ok_if_eq (off := 12) (by decide) (by decide +kernel)) ?_
  refine ak (ok_iload_n (k := 0) rfl (by decide +kernel)) ?_
  refine ak (ok_iload_n (k := 1) rfl (by decide +kernel)) ?_
  refine ak (ok_icmp_gt (off := 7) (by decide) (by decide +kernel)) ?_
  refine ak (ok_iconst (n := 1) (by decide) (by decide +kernel)) ?_
  refine ak (ok_goto (off := 4) (by decide) (by decide +kernel)) ?_
  refine ak (ok_iconst (n := 0) (by decide) (by decide +kernel)) ?_
  refine ak (ok_zreturn rfl (by decide +kernel)) ?_
  exact trivial
set_option maxRecDepth 1000000 in
theorem eF_areDays (x0 : Int32) (x1 : Int32) (M : Mem) : run (cF_areDays) (fun _ _ _ _ => none) rtI 400 (seek (cF_areDays) 0) [aI x0, aI x1] [] M = mF_areDays x0 x1 M := id rfl
theorem lF_areDays {E : EV} {l : Launch} {p : Program} {e : Env} {s : State} {m : MethodId} {args : Array Value} {below : List Frame} {meth : Method} {c : Code} (A : AllOK E l 3 "FreeLances" prog_1_method_59_code 2 (some .boolean) outI (cF_areDays)) (C : Cx E p s m args meth c "FreeLances" prog_1_method_59_code 2 (some .boolean)) : ∀ (x0 : Int32) (x1 : Int32) (M : Mem) (res : (Int32 × Mem)), mF_areDays x0 x1 M = some res → Wm E p l e 3 s m args below meth c 2 0 [aI x0, aI x1] [] M (outI res).1 (outI res).2 := by
  intro x0 x1 M res h
  refine run_at C A rfl hrtI (n := 400) ((eF_areDays x0 x1 M).trans h) ?_
  intro t als st M hk; cases hk
def dF_areDays {β : Type} : Den β := fun as M k => match as with
  | [.inl x0, .inl x1] => (mF_areDays x0 x1 M).bind fun q => k (aI q.1) q.2
  | _ => none
theorem wF_areDays {E : EV} (hsd : E.2.2.2 = 0) (l : Launch) (x0 : Int32) (x1 : Int32) (M : Mem) (q : (Int32 × Mem)) (hq : mF_areDays x0 x1 M = some q) : Con E l 3 yF_areDays prog_1_method_59_code 2 (some .boolean) [aI x0, aI x1] M (outI q).1 (outI q).2 := by
  refine con_of iF_areDays (Nat.le_of_ble_eq_true rfl) ?_
  intro p e s m args below meth c C
  exact lF_areDays (oF_areDays hsd l) C x0 x1 M _ hq
theorem kF_areDays {E : EV} (hsd : E.2.2.2 = 0) (l : Launch) {β : Type} : DenOK E l 3 yF_areDays prog_1_method_59_code 2 (some .boolean) true (dF_areDays (β := β)) := by
  intro as M k res h
  unfold dF_areDays at h
  split at h
  · obtain ⟨q, hq, hk⟩ := Option.bind_eq_some_iff.mp h
    exact ⟨aI q.1, q.2, hk, rfl, wF_areDays hsd l _ _ M q hq⟩
  · cases h
/-! ===== FreeLances$World.bondsFull()Z ===== -/
abbrev yW_bondsFull : MethodName := ⟨"FreeLances$World", "bondsFull", "()Z"⟩
theorem iW_bondsFull : MI yW_bondsFull prog_11_method_16_code 1 (some .boolean) 0 := ⟨tw811, tw98, ⟨by decide, by decide⟩, by decide +kernel, by decide, by decide⟩
def cW_bondsFull : List (Ent (Int32 × Mem)) := [(false, 0, 1, sLdA 0),
  (false, 1, 3, sGet 1 (fun w i M => aI (M 1 w i 12))),
  (false, 4, 2, sC 24),
  (false, 6, 3, sCmpLt 13),
  (false, 9, 1, sC 1),
  (false, 10, 3, sGoto 14),
  (false, 13, 1, sC 0),
  (false, 14, 1, sRetZ)]
theorem oW_bondsFull {E : EV} (hsd : E.2.2.2 = 0) (l : Launch) : AllOK E l 1 "FreeLances$World" prog_11_method_16_code 1 (some .boolean) outI (cW_bondsFull) := by
  refine ak (ok_aload_n (k := 0) rfl (by decide +kernel)) ?_
  refine ak (ok_get (k := 12) ck9 kd1 (by decide) (fun _ _ _ => rfl) (fun _ _ _ _ _ => trivial) tw412 (by decide +kernel)) ?_
  refine ak (ok_bipush (n := 24) (by decide) (by decide +kernel)) ?_
  refine ak (ok_icmp_lt (off := 7) (by decide) (by decide +kernel)) ?_
  refine ak (ok_iconst (n := 1) (by decide) (by decide +kernel)) ?_
  refine ak (ok_goto (off := 4) (by decide) (by decide +kernel)) ?_
  refine ak (ok_iconst (n := 0) (by decide) (by decide +kernel)) ?_
  refine ak (ok_zreturn rfl (by decide +kernel)) ?_
  exact trivial
set_option maxRecDepth 1000000 in
theorem eW_bondsFull (w0 : Nat) (M : Mem) : run (cW_bondsFull) (fun _ _ _ _ => none) rtI 400 (seek (cW_bondsFull) 0) [aR (1, w0, 0)] [] M = mW_bondsFull w0 M := id rfl
theorem lW_bondsFull {E : EV} {l : Launch} {p : Program} {e : Env} {s : State} {m : MethodId} {args : Array Value} {below : List Frame} {meth : Method} {c : Code} (A : AllOK E l 1 "FreeLances$World" prog_11_method_16_code 1 (some .boolean) outI (cW_bondsFull)) (C : Cx E p s m args meth c "FreeLances$World" prog_11_method_16_code 1 (some .boolean)) : ∀ (w0 : Nat) (M : Mem) (res : (Int32 × Mem)), mW_bondsFull w0 M = some res → Wm E p l e 1 s m args below meth c 1 0 [aR (1, w0, 0)] [] M (outI res).1 (outI res).2 := by
  intro w0 M res h
  refine run_at C A rfl hrtI (n := 400) ((eW_bondsFull w0 M).trans h) ?_
  intro t als st M hk; cases hk
def dW_bondsFull {β : Type} : Den β := fun as M k => match as with
  | [.inr (.inr (.inl (al0, w0, cl0)))] => if al0 = 1 ∧ cl0 = 0 then (mW_bondsFull w0 M).bind fun q => k (aI q.1) q.2 else none
  | _ => none
theorem wW_bondsFull {E : EV} (hsd : E.2.2.2 = 0) (l : Launch) (w0 : Nat) (M : Mem) (q : (Int32 × Mem)) (hq : mW_bondsFull w0 M = some q) : Con E l 1 yW_bondsFull prog_11_method_16_code 1 (some .boolean) [aR (1, w0, 0)] M (outI q).1 (outI q).2 := by
  refine con_of iW_bondsFull (Nat.le_of_ble_eq_true rfl) ?_
  intro p e s m args below meth c C
  exact lW_bondsFull (oW_bondsFull hsd l) C w0 M _ hq
theorem kW_bondsFull {E : EV} (hsd : E.2.2.2 = 0) (l : Launch) {β : Type} : DenOK E l 1 yW_bondsFull prog_11_method_16_code 1 (some .boolean) true (dW_bondsFull (β := β)) := by
  intro as M k res h
  unfold dW_bondsFull at h
  split at h
  ·
    split at h
    · rename_i hc
      obtain ⟨rfl, rfl⟩ := hc
      obtain ⟨q, hq, hk⟩ := Option.bind_eq_some_iff.mp h
      exact ⟨aI q.1, q.2, hk, rfl, wW_bondsFull hsd l _ M q hq⟩
    · cases h
  · cases h
theorem qW_bondsFull {β : Type} : RecOK 1 (dW_bondsFull (β := β)) := by
  intro as M k res h
  unfold dW_bondsFull at h
  split at h
  ·
    split at h
    · rename_i hc
      obtain ⟨rfl, rfl⟩ := hc
      exact ⟨_, _, _, rfl⟩
    · cases h
  · cases h
/-! ===== FreeLances$Bond.begin(III)V ===== -/
abbrev yB_begin : MethodName := ⟨"FreeLances$Bond", "begin", "(III)V"⟩
theorem iB_begin : MI yB_begin prog_2_method_2_code 4 none 3 := ⟨tw819, tw104, ⟨by decide, by decide⟩, by decide +kernel, by decide, by decide⟩
def cB_begin : List (Ent Mem) := [(false, 0, 1, sLdA 0),
  (false, 1, 1, sLdI 1),
  (false, 2, 3, sPut 15 0),
  (false, 5, 1, sLdA 0),
  (false, 6, 1, sLdI 2),
  (false, 7, 3, sPut 15 1),
  (false, 10, 1, sLdA 0),
  (false, 11, 1, sC (-1)),
  (false, 12, 3, sPut 15 2),
  (false, 15, 1, sLdA 0),
  (false, 16, 1, sC (-1)),
  (false, 17, 3, sPut 15 3),
  (false, 20, 1, sLdA 0),
  (false, 21, 1, sLdI 3),
  (false, 22, 3, sPut 15 4),
  (false, 25, 1, sLdA 0),
  (false, 26, 1, sC (-1)),
  (false, 27, 3, sPut 15 5),
  (false, 30, 1, sLdA 0),
  (false, 31, 1, sC (-1)),
  (false, 32, 3, sPut 15 6),
  (false, 35, 1, sLdA 0),
  (false, 36, 1, sC (-1)),
  (false, 37, 3, sPut 15 7),
  (false, 40, 1, sLdA 0),
  (false, 41, 1, sC 0),
  (false, 42, 3, sPut 15 8),
  (false, 45, 1, sLdA 0),
  (false, 46, 1, sC (-1)),
  (false, 47, 3, sPut 15 9),
  (false, 50, 1, sLdA 0),
  (false, 51, 1, sC 0),
  (false, 52, 3, sPut 15 10),
  (false, 55, 1, sLdA 0),
  (false, 56, 1, sC 0),
  (false, 57, 3, sPutZ 15 11),
  (false, 60, 1, sRetV)]
theorem oB_begin {E : EV} (hsd : E.2.2.2 = 0) (l : Launch) : AllOK E l 1 "FreeLances$Bond" prog_2_method_2_code 4 none outV (cB_begin) := by
  refine ak (ok_aload_n (k := 0) rfl (by decide +kernel)) ?_
  refine ak (ok_iload_n (k := 1) rfl (by decide +kernel)) ?_
  refine ak (ok_put (k := 0) ck0 kd15 (by decide) (fun _ _ _ => rfl) rfl rfl (by decide) tw324 (by decide +kernel)) ?_
  refine ak (ok_aload_n (k := 0) rfl (by decide +kernel)) ?_
  refine ak (ok_iload_n (k := 2) rfl (by decide +kernel)) ?_
  refine ak (ok_put (k := 1) ck0 kd15 (by decide) (fun _ _ _ => rfl) rfl rfl (by decide) tw327 (by decide +kernel)) ?_
  refine ak (ok_aload_n (k := 0) rfl (by decide +kernel)) ?_
  refine ak (ok_iconst (n := (-1)) (by decide) (by decide +kernel)) ?_
  refine ak (ok_put (k := 2) ck0 kd15 (by decide) (fun _ _ _ => rfl) rfl rfl (by decide) tw330 (by decide +kernel)) ?_
  refine ak (ok_aload_n (k := 0) rfl (by decide +kernel)) ?_
  refine ak (ok_iconst (n := (-1)) (by decide) (by decide +kernel)) ?_
  refine ak (ok_put (k := 3) ck0 kd15 (by decide) (fun _ _ _ => rfl) rfl rfl (by decide) tw333 (by decide +kernel)) ?_
  refine ak (ok_aload_n (k := 0) rfl (by decide +kernel)) ?_
  refine ak (ok_iload_n (k := 3) rfl (by decide +kernel)) ?_
  refine ak (ok_put (k := 4) ck0 kd15 (by decide) (fun _ _ _ => rfl) rfl rfl (by decide) tw336 (by decide +kernel)) ?_
  refine ak (ok_aload_n (k := 0) rfl (by decide +kernel)) ?_
  refine ak (ok_iconst (n := (-1)) (by decide) (by decide +kernel)) ?_
  refine ak (ok_put (k := 5) ck0 kd15 (by decide) (fun _ _ _ => rfl) rfl rfl (by decide) tw339 (by decide +kernel)) ?_
  refine ak (ok_aload_n (k := 0) rfl (by decide +kernel)) ?_
  refine ak (ok_iconst (n := (-1)) (by decide) (by decide +kernel)) ?_
  refine ak (ok_put (k := 6) ck0 kd15 (by decide) (fun _ _ _ => rfl) rfl rfl (by decide) tw342 (by decide +kernel)) ?_
  refine ak (ok_aload_n (k := 0) rfl (by decide +kernel)) ?_
  refine ak (ok_iconst (n := (-1)) (by decide) (by decide +kernel)) ?_
  refine ak (ok_put (k := 7) ck0 kd15 (by decide) (fun _ _ _ => rfl) rfl rfl (by decide) tw345 (by decide +kernel)) ?_
  refine ak (ok_aload_n (k := 0) rfl (by decide +kernel)) ?_
  refine ak (ok_iconst (n := 0) (by decide) (by decide +kernel)) ?_
  refine ak (ok_put (k := 8) ck0 kd15 (by decide) (fun _ _ _ => rfl) rfl rfl (by decide) tw348 (by decide +kernel)) ?_
  refine ak (ok_aload_n (k := 0) rfl (by decide +kernel)) ?_
  refine ak (ok_iconst (n := (-1)) (by decide) (by decide +kernel)) ?_
  refine ak (ok_put (k := 9) ck0 kd15 (by decide) (fun _ _ _ => rfl) rfl rfl (by decide) tw351 (by decide +kernel)) ?_
  refine ak (ok_aload_n (k := 0) rfl (by decide +kernel)) ?_
  refine ak (ok_iconst (n := 0) (by decide) (by decide +kernel)) ?_
  refine ak (ok_put (k := 10) ck0 kd15 (by decide) (fun _ _ _ => rfl) rfl rfl (by decide) tw354 (by decide +kernel)) ?_
  refine ak (ok_aload_n (k := 0) rfl (by decide +kernel)) ?_
  refine ak (ok_iconst (n := 0) (by decide) (by decide +kernel)) ?_
  refine ak (ok_putZ (k := 11) ck0 kd15 (by decide) (fun _ _ _ => rfl) rfl rfl (by decide) tw357 (by decide +kernel)) ?_
  refine ak (ok_return rfl (by decide +kernel)) ?_
  exact trivial
set_option maxRecDepth 1000000 in
theorem eB_begin (w0 : Nat) (i0 : Nat) (x1 : Int32) (x2 : Int32) (x3 : Int32) (M : Mem) : run (cB_begin) (fun _ _ _ _ => none) rtV 400 (seek (cB_begin) 0) [aR (15, w0, i0), aI x1, aI x2, aI x3] [] M = mB_begin w0 i0 x1 x2 x3 M := id rfl
theorem lB_begin {E : EV} {l : Launch} {p : Program} {e : Env} {s : State} {m : MethodId} {args : Array Value} {below : List Frame} {meth : Method} {c : Code} (A : AllOK E l 1 "FreeLances$Bond" prog_2_method_2_code 4 none outV (cB_begin)) (C : Cx E p s m args meth c "FreeLances$Bond" prog_2_method_2_code 4 none) : ∀ (w0 : Nat) (i0 : Nat) (x1 : Int32) (x2 : Int32) (x3 : Int32) (M : Mem) (res : Mem), mB_begin w0 i0 x1 x2 x3 M = some res → Wm E p l e 1 s m args below meth c 4 0 [aR (15, w0, i0), aI x1, aI x2, aI x3] [] M (outV res).1 (outV res).2 := by
  intro w0 i0 x1 x2 x3 M res h
  refine run_at C A rfl hrtV (n := 400) ((eB_begin w0 i0 x1 x2 x3 M).trans h) ?_
  intro t als st M hk; cases hk
def dB_begin {β : Type} : Den β := fun as M k => match as with
  | [.inr (.inr (.inl (al0, w0, i0))), .inl x1, .inl x2, .inl x3] => if al0 = 15 then (mB_begin w0 i0 x1 x2 x3 M).bind fun q => k aU q else none
  | _ => none
theorem wB_begin {E : EV} (hsd : E.2.2.2 = 0) (l : Launch) (w0 : Nat) (i0 : Nat) (x1 : Int32) (x2 : Int32) (x3 : Int32) (M : Mem) (q : Mem) (hq : mB_begin w0 i0 x1 x2 x3 M = some q) : Con E l 1 yB_begin prog_2_method_2_code 4 none [aR (15, w0, i0), aI x1, aI x2, aI x3] M (outV q).1 (outV q).2 := by
  refine con_of iB_begin (Nat.le_of_ble_eq_true rfl) ?_
  intro p e s m args below meth c C
  exact lB_begin (oB_begin hsd l) C w0 i0 x1 x2 x3 M _ hq
theorem kB_begin {E : EV} (hsd : E.2.2.2 = 0) (l : Launch) {β : Type} : DenOK E l 1 yB_begin prog_2_method_2_code 4 none false (dB_begin (β := β)) := by
  intro as M k res h
  unfold dB_begin at h
  split at h
  ·
    split at h
    · rename_i hc
      obtain rfl := hc
      obtain ⟨q, hq, hk⟩ := Option.bind_eq_some_iff.mp h
      exact ⟨aU, q, hk, rfl, wB_begin hsd l _ _ _ _ _ M q hq⟩
    · cases h
  · cases h
theorem qB_begin {β : Type} : RecOK 15 (dB_begin (β := β)) := by
  intro as M k res h
  unfold dB_begin at h
  split at h
  ·
    split at h
    · rename_i hc
      obtain rfl := hc
      exact ⟨_, _, _, rfl⟩
    · cases h
  · cases h
/-! ===== FreeLances.newBond(III)LFreeLances$Bond; ===== -/
abbrev yF_newBond : MethodName := ⟨"FreeLances", "newBond", "(III)LFreeLances$Bond;"⟩
theorem iF_newBond : MI yF_newBond prog_1_method_67_code 5 (some (.object "FreeLances$Bond")) 3 := ⟨tw815, tw97, ⟨by decide, by decide⟩, by decide +kernel, by decide, by decide⟩
def cF_newBond : List (Ent (Nat × Mem)) := [(false, 0, 1, sLdA 0),
  (false, 1, 3, sGet 0 (fun w i M => aR (1, 0, 0))),
  (false, 4, 3, sGet 1 (fun w i M => aR (14, w, 0))),
  (false, 7, 1, sLdA 0),
  (false, 8, 3, sGet 0 (fun w i M => aR (1, 0, 0))),
  (false, 11, 3, sGet 1 (fun w i M => aI (M 1 w i 12))),
  (false, 14, 1, sAald 14 24 15),
  (false, 15, 2, sStA 4),
  (false, 17, 2, sLdA 4),
  (false, 19, 1, sLdI 1),
  (false, 20, 1, sLdI 2),
  (false, 21, 1, sLdI 3),
  (false, 22, 3, sInv 4 false dB_begin),
  (false, 25, 2, sLdA 4),
  (false, 27, 1, sRetA)]
theorem oF_newBond {E : EV} (hsd : E.2.2.2 = 0) (l : Launch) : AllOK E l 2 "FreeLances" prog_1_method_67_code 5 (some (.object "FreeLances$Bond")) outB (cF_newBond) := by
  refine ak (ok_aload_n (k := 0) rfl (by decide +kernel)) ?_
  refine ak (ok_get (k := 0) ck10 kd0 (by decide) (fun _ _ _ => rfl) (vf_0_0 hsd) tw522 (by decide +kernel)) ?_
  refine ak (ok_get (k := 11) ck9 kd1 (by decide) (fun _ _ _ => rfl) (vf_1_11 hsd) tw411 (by decide +kernel)) ?_
  refine ak (ok_aload_n (k := 0) rfl (by decide +kernel)) ?_
  refine ak (ok_get (k := 0) ck10 kd0 (by decide) (fun _ _ _ => rfl) (vf_0_0 hsd) tw522 (by decide +kernel)) ?_
  refine ak (ok_get (k := 12) ck9 kd1 (by decide) (fun _ _ _ => rfl) (fun _ _ _ _ _ => trivial) tw413 (by decide +kernel)) ?_
  refine ak (ok_aald (t0 := 6) (C := RX0) kd14 (by decide) rfl (vr_14 hsd) (by decide +kernel)) ?_
  refine ak (ok_astore (by decide) (by decide +kernel)) ?_
  refine ak (ok_aload (by decide +kernel)) ?_
  refine ak (ok_iload_n (k := 1) rfl (by decide +kernel)) ?_
  refine ak (ok_iload_n (k := 2) rfl (by decide +kernel)) ?_
  refine ak (ok_iload_n (k := 3) rfl (by decide +kernel)) ?_
  refine ak (ok_invV (r := 15) (kB_begin hsd l) qB_begin ck0 kd15 iB_begin tw817 tw818 (by decide) tw816 (by decide +kernel)) ?_
  refine ak (ok_aload (by decide +kernel)) ?_
  refine ak (ok_areturn rfl (by decide +kernel)) ?_
  exact trivial
set_option maxRecDepth 1000000 in
theorem eF_newBond (x1 : Int32) (x2 : Int32) (x3 : Int32) (M : Mem) : run (cF_newBond) (fun _ _ _ _ => none) rtB 400 (seek (cF_newBond) 0) [aR (0, 0, 0), aI x1, aI x2, aI x3, aU] [] M = mF_newBond x1 x2 x3 M := id rfl
theorem lF_newBond {E : EV} {l : Launch} {p : Program} {e : Env} {s : State} {m : MethodId} {args : Array Value} {below : List Frame} {meth : Method} {c : Code} (A : AllOK E l 2 "FreeLances" prog_1_method_67_code 5 (some (.object "FreeLances$Bond")) outB (cF_newBond)) (C : Cx E p s m args meth c "FreeLances" prog_1_method_67_code 5 (some (.object "FreeLances$Bond"))) : ∀ (x1 : Int32) (x2 : Int32) (x3 : Int32) (M : Mem) (res : (Nat × Mem)), mF_newBond x1 x2 x3 M = some res → Wm E p l e 2 s m args below meth c 5 0 [aR (0, 0, 0), aI x1, aI x2, aI x3, aU] [] M (outB res).1 (outB res).2 := by
  intro x1 x2 x3 M res h
  refine run_at C A rfl hrtB (n := 400) ((eF_newBond x1 x2 x3 M).trans h) ?_
  intro t als st M hk; cases hk
def dF_newBond {β : Type} : Den β := fun as M k => match as with
  | [.inr (.inr (.inl (al0, bl0, cl0))), .inl x1, .inl x2, .inl x3] => if al0 = 0 ∧ bl0 = 0 ∧ cl0 = 0 then (mF_newBond x1 x2 x3 M).bind fun q => k (aR (15, 0, q.1)) q.2 else none
  | _ => none
theorem wF_newBond {E : EV} (hsd : E.2.2.2 = 0) (l : Launch) (x1 : Int32) (x2 : Int32) (x3 : Int32) (M : Mem) (q : (Nat × Mem)) (hq : mF_newBond x1 x2 x3 M = some q) : Con E l 2 yF_newBond prog_1_method_67_code 5 (some (.object "FreeLances$Bond")) [aR (0, 0, 0), aI x1, aI x2, aI x3] M (outB q).1 (outB q).2 := by
  refine con_of iF_newBond (Nat.le_of_ble_eq_true rfl) ?_
  intro p e s m args below meth c C
  exact lF_newBond (oF_newBond hsd l) C x1 x2 x3 M _ hq
theorem kF_newBond {E : EV} (hsd : E.2.2.2 = 0) (l : Launch) {β : Type} : DenOK E l 2 yF_newBond prog_1_method_67_code 5 (some (.object "FreeLances$Bond")) true (dF_newBond (β := β)) := by
  intro as M k res h
  unfold dF_newBond at h
  split at h
  ·
    split at h
    · rename_i hc
      obtain ⟨rfl, rfl, rfl⟩ := hc
      obtain ⟨q, hq, hk⟩ := Option.bind_eq_some_iff.mp h
      exact ⟨aR (15, 0, q.1), q.2, hk, rfl, wF_newBond hsd l _ _ _ M q hq⟩
    · cases h
  · cases h
theorem qF_newBond {β : Type} : RecOK 0 (dF_newBond (β := β)) := by
  intro as M k res h
  unfold dF_newBond at h
  split at h
  ·
    split at h
    · rename_i hc
      obtain ⟨rfl, rfl, rfl⟩ := hc
      exact ⟨_, _, _, rfl⟩
    · cases h
  · cases h
/-! ===== FreeLances.contract(IIII)I ===== -/
abbrev yF_contract : MethodName := ⟨"FreeLances", "contract", "(IIII)I"⟩
theorem iF_contract : MI yF_contract prog_1_method_20_code 9 (some .int) 4 := ⟨tw804, tw97, ⟨by decide, by decide⟩, by decide +kernel, by decide, by decide⟩
def cF_contract : List (Ent (Int32 × Mem)) := [(false, 0, 1, sLdI 1),
  (false, 1, 2, sC 10),
  (false, 3, 1, sBin0 (fun x y => x - x / y * y)),
  (false, 4, 2, sStI 5),
  (false, 6, 1, sLdI 1),
  (false, 7, 2, sC 10),
  (false, 9, 1, sBin0 (fun x y => x / y)),
  (false, 10, 2, sC 10),
  (false, 12, 1, sBin0 (fun x y => x - x / y * y)),
  (false, 13, 1, sC 1),
  (false, 14, 1, sBin (fun x y => x - y)),
  (false, 15, 2, sStI 6),
  (false, 17, 1, sLdI 1),
  (false, 18, 2, sC 100),
  (false, 20, 1, sBin0 (fun x y => x / y)),
  (false, 21, 2, sStI 7),
  (false, 23, 1, sLdI 1),
  (false, 24, 3, sIfLt 64),
  (false, 27, 1, sLdA 0),
  (false, 28, 2, sLdI 7),
  (false, 30, 3, sInv 2 true dF_isTown),
  (false, 33, 3, sIfEq 64),
  (false, 36, 1, sLdA 0),
  (false, 37, 2, sLdI 5),
  (false, 39, 3, sInv 2 true dF_isCompany),
  (false, 42, 3, sIfEq 64),
  (false, 45, 2, sLdI 6),
  (false, 47, 1, sLdA 0),
  (false, 48, 3, sGet 0 (fun w i M => aR (1, 0, 0))),
  (false, 51, 3, sGet 1 (fun w i M => aI (M 1 w i 2))),
  (false, 54, 3, sCmpGe 64),
  (false, 57, 2, sLdI 6),
  (false, 59, 2, sLdI 7),
  (false, 61, 3, sCmpNe 70),
  (false, 64, 1, sLdA 0),
  (false, 65, 1, sC 1),
  (false, 66, 3, sInv 2 true dF_finding),
  (false, 69, 1, sRetI),
  (false, 70, 1, sLdI 2),
  (false, 71, 1, sLdI 3),
  (false, 72, 3, sInv 2 true dF_areDays),
  (false, 75, 3, sIfEq 90),
  (false, 78, 2, sLdI 4),
  (false, 80, 1, sC 0),
  (false, 81, 3, sC 999),
  (false, 84, 3, sInv 3 true dF_within),
  (false, 87, 3, sIfNe 96),
  (false, 90, 1, sLdA 0),
  (false, 91, 1, sC 1),
  (false, 92, 3, sInv 2 true dF_finding),
  (false, 95, 1, sRetI),
  (false, 96, 1, sLdA 0),
  (false, 97, 3, sGet 0 (fun w i M => aR (1, 0, 0))),
  (false, 100, 3, sInv 1 true dW_bondsFull),
  (false, 103, 3, sIfEq 112),
  (false, 106, 1, sLdA 0),
  (false, 107, 1, sC 4),
  (false, 108, 3, sInv 2 true dF_finding),
  (false, 111, 1, sRetI),
  (false, 112, 1, sLdA 0),
  (false, 113, 1, sC 1),
  (false, 114, 2, sLdI 5),
  (false, 116, 2, sLdI 4),
  (false, 118, 3, sInv 4 true dF_newBond),
  (false, 121, 2, sStA 8),
  (false, 123, 2, sLdA 8),
  (false, 125, 1, sLdI 2),
  (false, 126, 3, sPut 15 2),
  (false, 129, 2, sLdA 8),
  (false, 131, 1, sLdI 3),
  (false, 132, 3, sPut 15 3),
  (false, 135, 2, sLdA 8),
  (false, 137, 2, sLdI 7),
  (false, 139, 3, sPut 15 5),
  (false, 142, 2, sLdA 8),
  (false, 144, 2, sLdI 6),
  (false, 146, 3, sPut 15 6),
  (false, 149, 1, sLdA 0),
  (false, 150, 3, sGet 0 (fun w i M => aR (1, 0, 0))),
  (false, 153, 1, sDup),
  (false, 154, 3, sGet 1 (fun w i M => aI (M 1 w i 12))),
  (false, 157, 1, sDupX1),
  (false, 158, 1, sC 1),
  (false, 159, 1, sBin (fun x y => x + y)),
  (false, 160, 3, sPut 1 12),
  (false, 163, 1, sRetI)]
theorem oF_contract {E : EV} (hsd : E.2.2.2 = 0) (l : Launch) : AllOK E l 4 "FreeLances" prog_1_method_20_code 9 (some .int) outI (cF_contract) := by
  refine ak (ok_iload_n (k := 1) rfl (by decide +kernel)) ?_
  refine ak (ok_bipush (n := 10) (by decide) (by decide +kernel)) ?_
  refine ak (ok_irem (by decide +kernel)) ?_
  refine ak (ok_istore (by decide) (by decide +kernel)) ?_
  refine ak (ok_iload_n (k := 1) rfl (by decide +kernel)) ?_
  refine ak (ok_bipush (n := 10) (by decide) (by decide +kernel)) ?_
  refine ak (ok_idiv (by decide +kernel)) ?_
  refine ak (ok_bipush (n := 10) (by decide) (by decide +kernel)) ?_
  refine ak (ok_irem (by decide +kernel)) ?_
  refine ak (ok_iconst (n := 1) (by decide) (by decide +kernel)) ?_
  refine ak (ok_isub (by decide +kernel)) ?_
  refine ak (ok_istore (by decide) (by decide +kernel)) ?_
  refine ak (ok_iload_n (k := 1) rfl (by decide +kernel)) ?_
  refine ak (ok_bipush (n := 100) (by decide) (by decide +kernel)) ?_
  refine ak (ok_idiv (by decide +kernel)) ?_
  refine ak (ok_istore (by decide) (by decide +kernel)) ?_
  refine ak (ok_iload_n (k := 1) rfl (by decide +kernel)) ?_
  refine ak (ok_if_lt (off := 40) (by decide) (by decide +kernel)) ?_
  refine ak (ok_aload_n (k := 0) rfl (by decide +kernel)) ?_
  refine ak (ok_iload (by decide +kernel)) ?_
  refine ak (ok_invV (r := 0) (kF_isTown hsd l) qF_isTown ck10 kd0 iF_isTown tw570 tw1 (by decide) tw568 (by decide +kernel)) ?_
  refine ak (ok_if_eq (off := 31) (by decide) (by decide +kernel)) ?_
  refine ak (ok_aload_n (k := 0) rfl (by decide +kernel)) ?_
  refine ak (ok_iload (by decide +kernel)) ?_
  refine ak (ok_invV (r := 0) (kF_isCompany hsd l) qF_isCompany ck10 kd0 iF_isCompany tw620 tw2 (by decide) tw618 (by decide +kernel)) ?_
  refine ak (ok_if_eq (off := 22) (by decide) (by decide +kernel)) ?_
  refine ak (ok_iload (by decide +kernel)) ?_
  refine ak (ok_aload_n (k := 0) rfl (by decide +kernel)) ?_
  refine ak (ok_get (k := 0) ck10 kd0 (by decide) (fun _ _ _ => rfl) (vf_0_0 hsd) tw522 (by decide +kernel)) ?_
  refine ak (ok_get (k := 2) ck9 kd1 (by decide) (fun _ _ _ => rfl) (fun _ _ _ _ _ => trivial) tw391 (by decide +kernel)) ?_
  refine ak (ok_icmp_ge (off := 10) (by decide) (by decide +kernel)) ?_
  refine ak (ok_iload (by decide +kernel)) ?_
  refine ak (ok_iload (by decide +kernel)) ?_
  refine ak (ok_icmp_ne (off := 9) (by decide) (by decide +kernel)) ?_
  refine ak (ok_aload_n (k := 0) rfl (by decide +kernel)) ?_
  refine ak (ok_iconst (n := 1) (by decide) (by decide +kernel)) ?_
  refine ak (ok_invV (r := 0) (kF_finding hsd l) qF_finding ck10 kd0 iF_finding tw557 tw0 (by decide) tw555 (by decide +kernel)) ?_
  refine ak (ok_ireturn rfl (by decide +kernel)) ?_
  refine ak (ok_iload_n (k := 2) rfl (by decide +kernel)) ?_
  refine ak (ok_iload_n (k := 3) rfl (by decide +kernel)) ?_
  refine ak (ok_invS (kF_areDays hsd l) iF_areDays tw806 (by decide) tw805 (by decide +kernel)) ?_
  refine ak (ok_if_eq (off := 15) (by decide) (by decide +kernel)) ?_
  refine ak (ok_iload (by decide +kernel)) ?_
  refine ak (ok_iconst (n := 0) (by decide) (by decide +kernel)) ?_
  refine ak (ok_sipush (n := 999) (by decide) (by decide +kernel)) ?_
  refine ak (ok_invS (kF_within hsd l) iF_within tw553 (by decide) tw552 (by decide +kernel)) ?_
  refine ak (ok_if_ne (off := 9) (by decide) (by decide +kernel)) ?_
  refine ak (ok_aload_n (k := 0) rfl (by decide +kernel)) ?_
  refine ak (ok_iconst (n := 1) (by decide) (by decide +kernel)) ?_
  refine ak (ok_invV (r := 0) (kF_finding hsd l) qF_finding ck10 kd0 iF_finding tw557 tw0 (by decide) tw555 (by decide +kernel)) ?_
  refine ak (ok_ireturn rfl (by decide +kernel)) ?_
  refine ak (ok_aload_n (k := 0) rfl (by decide +kernel)) ?_
  refine ak (ok_get (k := 0) ck10 kd0 (by decide) (fun _ _ _ => rfl) (vf_0_0 hsd) tw522 (by decide +kernel)) ?_
  refine ak (ok_invV (r := 1) (kW_bondsFull hsd l) qW_bondsFull ck9 kd1 iW_bondsFull tw809 tw810 (by decide) tw808 (by decide +kernel)) ?_
  refine ak (ok_if_eq (off := 9) (by decide) (by decide +kernel)) ?_
  refine ak (ok_aload_n (k := 0) rfl (by decide +kernel)) ?_
  refine ak (ok_iconst (n := 4) (by decide) (by decide +kernel)) ?_
  refine ak (ok_invV (r := 0) (kF_finding hsd l) qF_finding ck10 kd0 iF_finding tw557 tw0 (by decide) tw555 (by decide +kernel)) ?_
  refine ak (ok_ireturn rfl (by decide +kernel)) ?_
  refine ak (ok_aload_n (k := 0) rfl (by decide +kernel)) ?_
  refine ak (ok_iconst (n := 1) (by decide) (by decide +kernel)) ?_
  refine ak (ok_iload (by decide +kernel)) ?_
  refine ak (ok_iload (by decide +kernel)) ?_
  refine ak (ok_invV (r := 0) (kF_newBond hsd l) qF_newBond ck10 kd0 iF_newBond tw814 tw17 (by decide) tw812 (by decide +kernel)) ?_
  refine ak (ok_astore (by decide) (by decide +kernel)) ?_
  refine ak (ok_aload (by decide +kernel)) ?_
  refine ak (ok_iload_n (k := 2) rfl (by decide +kernel)) ?_
  refine ak (ok_put (k := 2) ck0 kd15 (by decide) (fun _ _ _ => rfl) rfl rfl (by decide) tw331 (by decide +kernel)) ?_
  refine ak (ok_aload (by decide +kernel)) ?_
  refine ak (ok_iload_n (k := 3) rfl (by decide +kernel)) ?_
  refine ak (ok_put (k := 3) ck0 kd15 (by decide) (fun _ _ _ => rfl) rfl rfl (by decide) tw334 (by decide +kernel)) ?_
  refine ak (ok_aload (by decide +kernel)) ?_
  refine ak (ok_iload (by decide +kernel)) ?_
  refine ak (ok_put (k := 5) ck0 kd15 (by decide) (fun _ _ _ => rfl) rfl rfl (by decide) tw341 (by decide +kernel)) ?_
  refine ak (ok_aload (by decide +kernel)) ?_
  refine ak (ok_iload (by decide +kernel)) ?_
  refine ak (ok_put (k := 6) ck0 kd15 (by decide) (fun _ _ _ => rfl) rfl rfl (by decide) tw343 (by decide +kernel)) ?_
  refine ak (ok_aload_n (k := 0) rfl (by decide +kernel)) ?_
  refine ak (ok_get (k := 0) ck10 kd0 (by decide) (fun _ _ _ => rfl) (vf_0_0 hsd) tw522 (by decide +kernel)) ?_
  refine ak (ok_dup (by decide +kernel)) ?_
  refine ak (ok_get (k := 12) ck9 kd1 (by decide) (fun _ _ _ => rfl) (fun _ _ _ _ _ => trivial) tw413 (by decide +kernel)) ?_
  refine ak (ok_dup_x1 (by decide +kernel)) ?_
  refine ak (ok_iconst (n := 1) (by decide) (by decide +kernel)) ?_
  refine ak (ok_iadd (by decide +kernel)) ?_
  refine ak (ok_put (k := 12) ck9 kd1 (by decide) (fun _ _ _ => rfl) rfl rfl (by decide) tw413 (by decide +kernel)) ?_
  refine ak (ok_ireturn rfl (by decide +kernel)) ?_
  exact trivial
set_option maxRecDepth 1000000 in
theorem eF_contract (x1 : Int32) (x2 : Int32) (x3 : Int32) (x4 : Int32) (M : Mem) : run (cF_contract) (fun _ _ _ _ => none) rtI 400 (seek (cF_contract) 0) [aR (0, 0, 0), aI x1, aI x2, aI x3, aI x4, aU, aU, aU, aU] [] M = mF_contract x1 x2 x3 x4 M := id rfl
theorem lF_contract {E : EV} {l : Launch} {p : Program} {e : Env} {s : State} {m : MethodId} {args : Array Value} {below : List Frame} {meth : Method} {c : Code} (A : AllOK E l 4 "FreeLances" prog_1_method_20_code 9 (some .int) outI (cF_contract)) (C : Cx E p s m args meth c "FreeLances" prog_1_method_20_code 9 (some .int)) : ∀ (x1 : Int32) (x2 : Int32) (x3 : Int32) (x4 : Int32) (M : Mem) (res : (Int32 × Mem)), mF_contract x1 x2 x3 x4 M = some res → Wm E p l e 4 s m args below meth c 9 0 [aR (0, 0, 0), aI x1, aI x2, aI x3, aI x4, aU, aU, aU, aU] [] M (outI res).1 (outI res).2 := by
  intro x1 x2 x3 x4 M res h
  refine run_at C A rfl hrtI (n := 400) ((eF_contract x1 x2 x3 x4 M).trans h) ?_
  intro t als st M hk; cases hk
def dF_contract {β : Type} : Den β := fun as M k => match as with
  | [.inr (.inr (.inl (al0, bl0, cl0))), .inl x1, .inl x2, .inl x3, .inl x4] => if al0 = 0 ∧ bl0 = 0 ∧ cl0 = 0 then (mF_contract x1 x2 x3 x4 M).bind fun q => k (aI q.1) q.2 else none
  | _ => none
theorem wF_contract {E : EV} (hsd : E.2.2.2 = 0) (l : Launch) (x1 : Int32) (x2 : Int32) (x3 : Int32) (x4 : Int32) (M : Mem) (q : (Int32 × Mem)) (hq : mF_contract x1 x2 x3 x4 M = some q) : Con E l 4 yF_contract prog_1_method_20_code 9 (some .int) [aR (0, 0, 0), aI x1, aI x2, aI x3, aI x4] M (outI q).1 (outI q).2 := by
  refine con_of iF_contract (Nat.le_of_ble_eq_true rfl) ?_
  intro p e s m args below meth c C
  exact lF_contract (oF_contract hsd l) C x1 x2 x3 x4 M _ hq
theorem kF_contract {E : EV} (hsd : E.2.2.2 = 0) (l : Launch) {β : Type} : DenOK E l 4 yF_contract prog_1_method_20_code 9 (some .int) true (dF_contract (β := β)) := by
  intro as M k res h
  unfold dF_contract at h
  split at h
  ·
    split at h
    · rename_i hc
      obtain ⟨rfl, rfl, rfl⟩ := hc
      obtain ⟨q, hq, hk⟩ := Option.bind_eq_some_iff.mp h
      exact ⟨aI q.1, q.2, hk, rfl, wF_contract hsd l _ _ _ _ M q hq⟩
    · cases h
  · cases h
theorem qF_contract {β : Type} : RecOK 0 (dF_contract (β := β)) := by
  intro as M k res h
  unfold dF_contract at h
  split at h
  ·
    split at h
    · rename_i hc
      obtain ⟨rfl, rfl, rfl⟩ := hc
      exact ⟨_, _, _, rfl⟩
    · cases h
  · cases h
/-! ===== FreeLances.isBond(I)Z ===== -/
abbrev yF_isBond : MethodName := ⟨"FreeLances", "isBond", "(I)Z"⟩
theorem iF_isBond : MI yF_isBond prog_1_method_66_code 2 (some .boolean) 1 := ⟨tw827, tw97, ⟨by decide, by decide⟩, by decide +kernel, by decide, by decide⟩
def cF_isBond : List (Ent (Int32 × Mem)) := [(false, 0, 1, sLdI 1),
  (false, 1, 1, sC 0),
  (false, 2, 1, sLdA 0),
  (false, 3, 3, sGet 0 (fun w i M => aR (1, 0, 0))),
  (false, 6, 3, sGet 1 (fun w i M => aI (M 1 w i 12))),
  (false, 9, 1, sC 1),
  (false, 10, 1, sBin (fun x y => x - y)),
  (false, 11, 3, sInv 3 true dF_within),
  (false, 14, 1, sRetZ)]
theorem oF_isBond {E : EV} (hsd : E.2.2.2 = 0) (l : Launch) : AllOK E l 2 "FreeLances" prog_1_method_66_code 2 (some .boolean) outI (cF_isBond) := by
  refine ak (ok_iload_n (k := 1) rfl (by decide +kernel)) ?_
  refine ak (ok_iconst (n := 0) (by decide) (by decide +kernel)) ?_
  refine ak (ok_aload_n (k := 0) rfl (by decide +kernel)) ?_
  refine ak (ok_get (k := 0) ck10 kd0 (by decide) (fun _ _ _ => rfl) (vf_0_0 hsd) tw522 (by decide +kernel)) ?_
  refine ak (ok_get (k := 12) ck9 kd1 (by decide) (fun _ _ _ => rfl) (fun _ _ _ _ _ => trivial) tw413 (by decide +kernel)) ?_
  refine ak (ok_iconst (n := 1) (by decide) (by decide +kernel)) ?_
  refine ak (ok_isub (by decide +kernel)) ?_
  refine ak (ok_invS (kF_within hsd l) iF_within tw553 (by decide) tw552 (by decide +kernel)) ?_
  refine ak (ok_zreturn rfl (by decide +kernel)) ?_
  exact trivial
set_option maxRecDepth 1000000 in
theorem eF_isBond (x1 : Int32) (M : Mem) : run (cF_isBond) (fun _ _ _ _ => none) rtI 400 (seek (cF_isBond) 0) [aR (0, 0, 0), aI x1] [] M = mF_isBond x1 M := id rfl
theorem lF_isBond {E : EV} {l : Launch} {p : Program} {e : Env} {s : State} {m : MethodId} {args : Array Value} {below : List Frame} {meth : Method} {c : Code} (A : AllOK E l 2 "FreeLances" prog_1_method_66_code 2 (some .boolean) outI (cF_isBond)) (C : Cx E p s m args meth c "FreeLances" prog_1_method_66_code 2 (some .boolean)) : ∀ (x1 : Int32) (M : Mem) (res : (Int32 × Mem)), mF_isBond x1 M = some res → Wm E p l e 2 s m args below meth c 2 0 [aR (0, 0, 0), aI x1] [] M (outI res).1 (outI res).2 := by
  intro x1 M res h
  refine run_at C A rfl hrtI (n := 400) ((eF_isBond x1 M).trans h) ?_
  intro t als st M hk; cases hk
def dF_isBond {β : Type} : Den β := fun as M k => match as with
  | [.inr (.inr (.inl (al0, bl0, cl0))), .inl x1] => if al0 = 0 ∧ bl0 = 0 ∧ cl0 = 0 then (mF_isBond x1 M).bind fun q => k (aI q.1) q.2 else none
  | _ => none
theorem wF_isBond {E : EV} (hsd : E.2.2.2 = 0) (l : Launch) (x1 : Int32) (M : Mem) (q : (Int32 × Mem)) (hq : mF_isBond x1 M = some q) : Con E l 2 yF_isBond prog_1_method_66_code 2 (some .boolean) [aR (0, 0, 0), aI x1] M (outI q).1 (outI q).2 := by
  refine con_of iF_isBond (Nat.le_of_ble_eq_true rfl) ?_
  intro p e s m args below meth c C
  exact lF_isBond (oF_isBond hsd l) C x1 M _ hq
theorem kF_isBond {E : EV} (hsd : E.2.2.2 = 0) (l : Launch) {β : Type} : DenOK E l 2 yF_isBond prog_1_method_66_code 2 (some .boolean) true (dF_isBond (β := β)) := by
  intro as M k res h
  unfold dF_isBond at h
  split at h
  ·
    split at h
    · rename_i hc
      obtain ⟨rfl, rfl, rfl⟩ := hc
      obtain ⟨q, hq, hk⟩ := Option.bind_eq_some_iff.mp h
      exact ⟨aI q.1, q.2, hk, rfl, wF_isBond hsd l _ M q hq⟩
    · cases h
  · cases h
theorem qF_isBond {β : Type} : RecOK 0 (dF_isBond (β := β)) := by
  intro as M k res h
  unfold dF_isBond at h
  split at h
  ·
    split at h
    · rename_i hc
      obtain ⟨rfl, rfl, rfl⟩ := hc
      exact ⟨_, _, _, rfl⟩
    · cases h
  · cases h
/-! ===== FreeLances.renew(III)I ===== -/
abbrev yF_renew : MethodName := ⟨"FreeLances", "renew", "(III)I"⟩
theorem iF_renew : MI yF_renew prog_1_method_21_code 6 (some .int) 3 := ⟨tw823, tw97, ⟨by decide, by decide⟩, by decide +kernel, by decide, by decide⟩
def cF_renew : List (Ent (Int32 × Mem)) := [(false, 0, 1, sLdA 0),
  (false, 1, 1, sLdI 1),
  (false, 2, 3, sInv 2 true dF_isBond),
  (false, 5, 3, sIfEq 28),
  (false, 8, 1, sLdI 2),
  (false, 9, 1, sC 1),
  (false, 10, 3, sC 400),
  (false, 13, 3, sInv 3 true dF_within),
  (false, 16, 3, sIfEq 28),
  (false, 19, 1, sLdI 3),
  (false, 20, 1, sC 0),
  (false, 21, 1, sC 1),
  (false, 22, 3, sInv 3 true dF_within),
  (false, 25, 3, sIfNe 34),
  (false, 28, 1, sLdA 0),
  (false, 29, 1, sC 1),
  (false, 30, 3, sInv 2 true dF_finding),
  (false, 33, 1, sRetI),
  (false, 34, 1, sLdA 0),
  (false, 35, 3, sGet 0 (fun w i M => aR (1, 0, 0))),
  (false, 38, 3, sGet 1 (fun w i M => aR (14, w, 0))),
  (false, 41, 1, sLdI 1),
  (false, 42, 1, sAald 14 24 15),
  (false, 43, 2, sStA 4),
  (false, 45, 2, sLdA 4),
  (false, 47, 3, sGet 15 (fun w i M => aI (M 15 w i 3))),
  (false, 50, 1, sLdI 2),
  (false, 51, 1, sBin (fun x y => x + y)),
  (false, 52, 3, sC 3000),
  (false, 55, 3, sCmpLe 64),
  (false, 58, 1, sLdA 0),
  (false, 59, 1, sC 1),
  (false, 60, 3, sInv 2 true dF_finding),
  (false, 63, 1, sRetI),
  (false, 64, 2, sLdA 4),
  (false, 66, 3, sInv 1 true dB_isContract),
  (false, 69, 3, sIfNe 78),
  (false, 72, 1, sLdA 0),
  (false, 73, 1, sC 5),
  (false, 74, 3, sInv 2 true dF_finding),
  (false, 77, 1, sRetI),
  (false, 78, 2, sLdA 4),
  (false, 80, 3, sGet 15 (fun w i M => aI (M 15 w i 11))),
  (false, 83, 3, sIfEq 92),
  (false, 86, 1, sLdA 0),
  (false, 87, 1, sC 3),
  (false, 88, 3, sInv 2 true dF_finding),
  (false, 91, 1, sRetI),
  (false, 92, 1, sLdA 0),
  (false, 93, 3, sGet 0 (fun w i M => aR (1, 0, 0))),
  (false, 96, 3, sInv 1 true dW_bondsFull),
  (false, 99, 3, sIfEq 108),
  (false, 102, 1, sLdA 0),
  (false, 103, 1, sC 4),
  (false, 104, 3, sInv 2 true dF_finding),
  (false, 107, 1, sRetI),
  (false, 108, 2, sLdA 4),
  (false, 110, 1, sC 1),
  (false, 111, 3, sPutZ 15 11),
  (false, 114, 1, sLdA 0),
  (false, 115, 1, sC 2),
  (false, 116, 2, sLdA 4),
  (false, 118, 3, sGet 15 (fun w i M => aI (M 15 w i 1))),
  (false, 121, 2, sLdA 4),
  (false, 123, 3, sGet 15 (fun w i M => aI (M 15 w i 4))),
  (false, 126, 3, sInv 4 true dF_newBond),
  (false, 129, 2, sStA 5),
  (false, 131, 2, sLdA 5),
  (false, 133, 2, sLdA 4),
  (false, 135, 3, sGet 15 (fun w i M => aI (M 15 w i 3))),
  (false, 138, 1, sC 1),
  (false, 139, 1, sBin (fun x y => x + y)),
  (false, 140, 3, sPut 15 2),
  (false, 143, 2, sLdA 5),
  (false, 145, 2, sLdA 4),
  (false, 147, 3, sGet 15 (fun w i M => aI (M 15 w i 3))),
  (false, 150, 1, sLdI 2),
  (false, 151, 1, sBin (fun x y => x + y)),
  (false, 152, 3, sPut 15 3),
  (false, 155, 2, sLdA 5),
  (false, 157, 2, sLdA 4),
  (false, 159, 3, sGet 15 (fun w i M => aI (M 15 w i 5))),
  (false, 162, 3, sPut 15 5),
  (false, 165, 2, sLdA 5),
  (false, 167, 2, sLdA 4),
  (false, 169, 3, sGet 15 (fun w i M => aI (M 15 w i 6))),
  (false, 172, 3, sPut 15 6),
  (false, 175, 2, sLdA 5),
  (false, 177, 1, sLdI 1),
  (false, 178, 3, sPut 15 7),
  (false, 181, 1, sLdA 0),
  (false, 182, 3, sGet 0 (fun w i M => aR (1, 0, 0))),
  (false, 185, 1, sDup),
  (false, 186, 3, sGet 1 (fun w i M => aI (M 1 w i 12))),
  (false, 189, 1, sDupX1),
  (false, 190, 1, sC 1),
  (false, 191, 1, sBin (fun x y => x + y)),
  (false, 192, 3, sPut 1 12),
  (false, 195, 1, sRetI)]
theorem oF_renew {E : EV} (hsd : E.2.2.2 = 0) (l : Launch) : AllOK E l 3 "FreeLances" prog_1_method_21_code 6 (some .int) outI (cF_renew) := by
  refine ak (ok_aload_n (k := 0) rfl (by decide +kernel)) ?_
  refine ak (ok_iload_n (k := 1) rfl (by decide +kernel)) ?_
  refine ak (ok_invV (r := 0) (kF_isBond hsd l) qF_isBond ck10 kd0 iF_isBond tw826 tw18 (by decide) tw824 (by decide +kernel)) ?_
  refine ak (ok_if_eq (off := 23) (by decide) (by decide +kernel)) ?_
  refine ak (ok_iload_n (k := 2) rfl (by decide +kernel)) ?_
  refine ak (ok_iconst (n := 1) (by decide) (by decide +kernel)) ?_
  refine ak (ok_sipush (n := 400) (by decide) (by decide +kernel)) ?_
  refine ak (ok_invS (kF_within hsd l) iF_within tw553 (by decide) tw552 (by decide +kernel)) ?_
  refine ak (ok_if_eq (off := 12) (by decide) (by decide +kernel)) ?_
  refine ak (ok_iload_n (k := 3) rfl (by decide +kernel)) ?_
  refine ak (ok_iconst (n := 0) (by decide) (by decide +kernel)) ?_
  refine ak (ok_iconst (n := 1) (by decide) (by decide +kernel)) ?_
  refine ak (ok_invS (kF_within hsd l) iF_within tw553 (by decide) tw552 (by decide +kernel)) ?_
  refine ak (ok_if_ne (off := 9) (by decide) (by decide +kernel)) ?_
  refine ak (ok_aload_n (k := 0) rfl (by decide +kernel)) ?_
  refine ak (ok_iconst (n := 1) (by decide) (by decide +kernel)) ?_
  refine ak (ok_invV (r := 0) (kF_finding hsd l) qF_finding ck10 kd0 iF_finding tw557 tw0 (by decide) tw555 (by decide +kernel)) ?_
  refine ak (ok_ireturn rfl (by decide +kernel)) ?_
  refine ak (ok_aload_n (k := 0) rfl (by decide +kernel)) ?_
  refine ak (ok_get (k := 0) ck10 kd0 (by decide) (fun _ _ _ => rfl) (vf_0_0 hsd) tw522 (by decide +kernel)) ?_
  refine ak (ok_get (k := 11) ck9 kd1 (by decide) (fun _ _ _ => rfl) (vf_1_11 hsd) tw411 (by decide +kernel)) ?_
  refine ak (ok_iload_n (k := 1) rfl (by decide +kernel)) ?_
  refine ak (ok_aald (t0 := 6) (C := RX0) kd14 (by decide) rfl (vr_14 hsd) (by decide +kernel)) ?_
  refine ak (ok_astore (by decide) (by decide +kernel)) ?_
  refine ak (ok_aload (by decide +kernel)) ?_
  refine ak (ok_get (k := 3) ck0 kd15 (by decide) (fun _ _ _ => rfl) (fun _ _ _ _ _ => trivial) tw334 (by decide +kernel)) ?_
  refine ak (ok_iload_n (k := 2) rfl (by decide +kernel)) ?_
  refine ak (ok_iadd (by decide +kernel)) ?_
  refine ak (ok_sipush (n := 3000) (by decide) (by decide +kernel)) ?_
  refine ak (ok_icmp_le (off := 9) (by decide) (by decide +kernel)) ?_
  refine ak (ok_aload_n (k := 0) rfl (by decide +kernel)) ?_
  refine ak (ok_iconst (n := 1) (by decide) (by decide +kernel)) ?_
  refine ak (ok_invV (r := 0) (kF_finding hsd l) qF_finding ck10 kd0 iF_finding tw557 tw0 (by decide) tw555 (by decide +kernel)) ?_
  refine ak (ok_ireturn rfl (by decide +kernel)) ?_
  refine ak (ok_aload (by decide +kernel)) ?_
  refine ak (ok_invV (r := 15) (kB_isContract hsd l) qB_isContract ck0 kd15 iB_isContract tw643 tw644 (by decide) tw828 (by decide +kernel)) ?_
  refine ak (ok_if_ne (off := 9) (by decide) (by decide +kernel)) ?_
  refine ak (ok_aload_n (k := 0) rfl (by decide +kernel)) ?_
  refine ak (ok_iconst (n := 5) (by decide) (by decide +kernel)) ?_
  refine ak (ok_invV (r := 0) (kF_finding hsd l) qF_finding ck10 kd0 iF_finding tw557 tw0 (by decide) tw555 (by decide +kernel)) ?_
  refine ak (ok_ireturn rfl (by decide +kernel)) ?_
  refine ak (ok_aload (by decide +kernel)) ?_
  refine ak (ok_get (k := 11) ck0 kd15 (by decide) (fun _ _ _ => rfl) (fun _ _ _ _ _ => trivial) tw358 (by decide +kernel)) ?_
  refine ak (ok_if_eq (off := 9) (by decide) (by decide +kernel)) ?_
  refine ak (ok_aload_n (k := 0) rfl (by decide +kernel)) ?_
  refine ak (ok_iconst (n := 3) (by decide) (by decide +kernel)) ?_
  refine ak (ok_invV (r := 0) (kF_finding hsd l) qF_finding ck10 kd0 iF_finding tw557 tw0 (by decide) tw555 (by decide +kernel)) ?_
  refine ak (ok_ireturn rfl (by decide +kernel)) ?_
  refine ak (ok_aload_n (k := 0) rfl (by decide +kernel)) ?_
  refine ak (ok_get (k := 0) ck10 kd0 (by decide) (fun _ _ _ => rfl) (vf_0_0 hsd) tw522 (by decide +kernel)) ?_
  refine ak (ok_invV (r := 1) (kW_bondsFull hsd l) qW_bondsFull ck9 kd1 iW_bondsFull tw809 tw810 (by decide) tw808 (by decide +kernel)) ?_
  refine ak (ok_if_eq (off := 9) (by decide) (by decide +kernel)) ?_
  refine ak (ok_aload_n (k := 0) rfl (by decide +kernel)) ?_
  refine ak (ok_iconst (n := 4) (by decide) (by decide +kernel)) ?_
  refine ak (ok_invV (r := 0) (kF_finding hsd l) qF_finding ck10 kd0 iF_finding tw557 tw0 (by decide) tw555 (by decide +kernel)) ?_
  refine ak (ok_ireturn rfl (by decide +kernel)) ?_
  refine ak (ok_aload (by decide +kernel)) ?_
  refine ak (ok_iconst (n := 1) (by decide) (by decide +kernel)) ?_
  refine ak (ok_putZ (k := 11) ck0 kd15 (by decide) (fun _ _ _ => rfl) rfl rfl (by decide) tw358 (by decide +kernel)) ?_
  refine ak (ok_aload_n (k := 0) rfl (by decide +kernel)) ?_
  refine ak (ok_iconst (n := 2) (by decide) (by decide +kernel)) ?_
  refine ak (ok_aload (by decide +kernel)) ?_
  refine ak (ok_get (k := 1) ck0 kd15 (by decide) (fun _ _ _ => rfl) (fun _ _ _ _ _ => trivial) tw329 (by decide +kernel)) ?_
  refine ak (ok_aload (by decide +kernel)) ?_
  refine ak (ok_get (k := 4) ck0 kd15 (by decide) (fun _ _ _ => rfl) (fun _ _ _ _ _ => trivial) tw338 (by decide +kernel)) ?_
  refine ak (ok_invV (r := 0) (kF_newBond hsd l) qF_newBond ck10 kd0 iF_newBond tw814 tw17 (by decide) tw812 (by decide +kernel)) ?_
  refine ak (ok_astore (by decide) (by decide +kernel)) ?_
  refine ak (ok_aload (by decide +kernel)) ?_
  refine ak (ok_aload (by decide +kernel)) ?_
  refine ak (ok_get (k := 3) ck0 kd15 (by decide) (fun _ _ _ => rfl) (fun _ _ _ _ _ => trivial) tw334 (by decide +kernel)) ?_
  refine ak (ok_iconst (n := 1) (by decide) (by decide +kernel)) ?_
  refine ak (ok_iadd (by decide +kernel)) ?_
  refine ak (ok_put (k := 2) ck0 kd15 (by decide) (fun _ _ _ => rfl) rfl rfl (by decide) tw331 (by decide +kernel)) ?_
  refine ak (ok_aload (by decide +kernel)) ?_
  refine ak (ok_aload (by decide +kernel)) ?_
  refine ak (ok_get (k := 3) ck0 kd15 (by decide) (fun _ _ _ => rfl) (fun _ _ _ _ _ => trivial) tw334 (by decide +kernel)) ?_
  refine ak (ok_iload_n (k := 2) rfl (by decide +kernel)) ?_
  refine ak (ok_iadd (by decide +kernel)) ?_
  refine ak (ok_put (k := 3) ck0 kd15 (by decide) (fun _ _ _ => rfl) rfl rfl (by decide) tw334 (by decide +kernel)) ?_
  refine ak (ok_aload (by decide +kernel)) ?_
  refine ak (ok_aload (by decide +kernel)) ?_
  refine ak (ok_get (k := 5) ck0 kd15 (by decide) (fun _ _ _ => rfl) (fun _ _ _ _ _ => trivial) tw341 (by decide +kernel)) ?_
  refine ak (ok_put (k := 5) ck0 kd15 (by decide) (fun _ _ _ => rfl) rfl rfl (by decide) tw341 (by decide +kernel)) ?_
  refine ak (ok_aload (by decide +kernel)) ?_
  refine ak (ok_aload (by decide +kernel)) ?_
  refine ak (ok_get (k := 6) ck0 kd15 (by decide) (fun _ _ _ => rfl) (fun _ _ _ _ _ => trivial) tw343 (by decide +kernel)) ?_
  refine ak (ok_put (k := 6) ck0 kd15 (by decide) (fun _ _ _ => rfl) rfl rfl (by decide) tw343 (by decide +kernel)) ?_
  refine ak (ok_aload (by decide +kernel)) ?_
  refine ak (ok_iload_n (k := 1) rfl (by decide +kernel)) ?_
  refine ak (ok_put (k := 7) ck0 kd15 (by decide) (fun _ _ _ => rfl) rfl rfl (by decide) tw346 (by decide +kernel)) ?_
  refine ak (ok_aload_n (k := 0) rfl (by decide +kernel)) ?_
  refine ak (ok_get (k := 0) ck10 kd0 (by decide) (fun _ _ _ => rfl) (vf_0_0 hsd) tw522 (by decide +kernel)) ?_
  refine ak (ok_dup (by decide +kernel)) ?_
  refine ak (ok_get (k := 12) ck9 kd1 (by decide) (fun _ _ _ => rfl) (fun _ _ _ _ _ => trivial) tw413 (by decide +kernel)) ?_
  refine ak (ok_dup_x1 (by decide +kernel)) ?_
  refine ak (ok_iconst (n := 1) (by decide) (by decide +kernel)) ?_
  refine ak (ok_iadd (by decide +kernel)) ?_
  refine ak (ok_put (k := 12) ck9 kd1 (by decide) (fun _ _ _ => rfl) rfl rfl (by decide) tw413 (by decide +kernel)) ?_
  refine ak (ok_ireturn rfl (by decide +kernel)) ?_
  exact trivial
set_option maxRecDepth 1000000 in
theorem eF_renew (x1 : Int32) (x2 : Int32) (x3 : Int32) (M : Mem) : run (cF_renew) (fun _ _ _ _ => none) rtI 400 (seek (cF_renew) 0) [aR (0, 0, 0), aI x1, aI x2, aI x3, aU, aU] [] M = mF_renew x1 x2 x3 M := id rfl
theorem lF_renew {E : EV} {l : Launch} {p : Program} {e : Env} {s : State} {m : MethodId} {args : Array Value} {below : List Frame} {meth : Method} {c : Code} (A : AllOK E l 3 "FreeLances" prog_1_method_21_code 6 (some .int) outI (cF_renew)) (C : Cx E p s m args meth c "FreeLances" prog_1_method_21_code 6 (some .int)) : ∀ (x1 : Int32) (x2 : Int32) (x3 : Int32) (M : Mem) (res : (Int32 × Mem)), mF_renew x1 x2 x3 M = some res → Wm E p l e 3 s m args below meth c 6 0 [aR (0, 0, 0), aI x1, aI x2, aI x3, aU, aU] [] M (outI res).1 (outI res).2 := by
  intro x1 x2 x3 M res h
  refine run_at C A rfl hrtI (n := 400) ((eF_renew x1 x2 x3 M).trans h) ?_
  intro t als st M hk; cases hk
def dF_renew {β : Type} : Den β := fun as M k => match as with
  | [.inr (.inr (.inl (al0, bl0, cl0))), .inl x1, .inl x2, .inl x3] => if al0 = 0 ∧ bl0 = 0 ∧ cl0 = 0 then (mF_renew x1 x2 x3 M).bind fun q => k (aI q.1) q.2 else none
  | _ => none
theorem wF_renew {E : EV} (hsd : E.2.2.2 = 0) (l : Launch) (x1 : Int32) (x2 : Int32) (x3 : Int32) (M : Mem) (q : (Int32 × Mem)) (hq : mF_renew x1 x2 x3 M = some q) : Con E l 3 yF_renew prog_1_method_21_code 6 (some .int) [aR (0, 0, 0), aI x1, aI x2, aI x3] M (outI q).1 (outI q).2 := by
  refine con_of iF_renew (Nat.le_of_ble_eq_true rfl) ?_
  intro p e s m args below meth c C
  exact lF_renew (oF_renew hsd l) C x1 x2 x3 M _ hq
theorem kF_renew {E : EV} (hsd : E.2.2.2 = 0) (l : Launch) {β : Type} : DenOK E l 3 yF_renew prog_1_method_21_code 6 (some .int) true (dF_renew (β := β)) := by
  intro as M k res h
  unfold dF_renew at h
  split at h
  ·
    split at h
    · rename_i hc
      obtain ⟨rfl, rfl, rfl⟩ := hc
      obtain ⟨q, hq, hk⟩ := Option.bind_eq_some_iff.mp h
      exact ⟨aI q.1, q.2, hk, rfl, wF_renew hsd l _ _ _ M q hq⟩
    · cases h
  · cases h
theorem qF_renew {β : Type} : RecOK 0 (dF_renew (β := β)) := by
  intro as M k res h
  unfold dF_renew at h
  split at h
  ·
    split at h
    · rename_i hc
      obtain ⟨rfl, rfl, rfl⟩ := hc
      exact ⟨_, _, _, rfl⟩
    · cases h
  · cases h
/-! ===== FreeLances$World.coinToCompany(III)V ===== -/
abbrev yW_coinToCompany : MethodName := ⟨"FreeLances$World", "coinToCompany", "(III)V"⟩
theorem iW_coinToCompany : MI yW_coinToCompany prog_11_method_8_code 4 none 3 := ⟨tw836, tw98, ⟨by decide, by decide⟩, by decide +kernel, by decide, by decide⟩
def cW_coinToCompany : List (Ent Mem) := [(false, 0, 1, sLdA 0),
  (false, 1, 3, sGet 1 (fun w i M => aR (2, w, 0))),
  (false, 4, 1, sLdI 1),
  (false, 5, 1, sAald 2 8 3),
  (false, 6, 1, sDup),
  (false, 7, 3, sGet 3 (fun w i M => aI (M 3 w i 0))),
  (false, 10, 1, sLdI 3),
  (false, 11, 1, sBin (fun x y => x - y)),
  (false, 12, 3, sPut 3 0),
  (false, 15, 1, sLdA 0),
  (false, 16, 3, sGet 1 (fun w i M => aR (5, w, 0))),
  (false, 19, 1, sLdI 2),
  (false, 20, 1, sAald 5 5 6),
  (false, 21, 1, sDup),
  (false, 22, 3, sGet 6 (fun w i M => aI (M 6 w i 0))),
  (false, 25, 1, sLdI 3),
  (false, 26, 1, sBin (fun x y => x + y)),
  (false, 27, 3, sPut 6 0),
  (false, 30, 1, sRetV)]
theorem oW_coinToCompany {E : EV} (hsd : E.2.2.2 = 0) (l : Launch) : AllOK E l 1 "FreeLances$World" prog_11_method_8_code 4 none outV (cW_coinToCompany) := by
  refine ak (ok_aload_n (k := 0) rfl (by decide +kernel)) ?_
  refine ak (ok_get (k := 1) ck9 kd1 (by decide) (fun _ _ _ => rfl) (vf_1_1 hsd) tw388 (by decide +kernel)) ?_
  refine ak (ok_iload_n (k := 1) rfl (by decide +kernel)) ?_
  refine ak (ok_aald (t0 := 2) (C := RX7) kd2 (by decide) rfl (vr_2 hsd) (by decide +kernel)) ?_
  refine ak (ok_dup (by decide +kernel)) ?_
  refine ak (ok_get (k := 0) ck7 kd3 (by decide) (fun _ _ _ => rfl) (fun _ _ _ _ _ => trivial) tw176 (by decide +kernel)) ?_
  refine ak (ok_iload_n (k := 3) rfl (by decide +kernel)) ?_
  refine ak (ok_isub (by decide +kernel)) ?_
  refine ak (ok_put (k := 0) ck7 kd3 (by decide) (fun _ _ _ => rfl) rfl rfl (by decide) tw176 (by decide +kernel)) ?_
  refine ak (ok_aload_n (k := 0) rfl (by decide +kernel)) ?_
  refine ak (ok_get (k := 5) ck9 kd1 (by decide) (fun _ _ _ => rfl) (vf_1_5 hsd) tw396 (by decide +kernel)) ?_
  refine ak (ok_iload_n (k := 2) rfl (by decide +kernel)) ?_
  refine ak (ok_aald (t0 := 3) (C := RX1) kd5 (by decide) rfl (vr_5 hsd) (by decide +kernel)) ?_
  refine ak (ok_dup (by decide +kernel)) ?_
  refine ak (ok_get (k := 0) ck1 kd6 (by decide) (fun _ _ _ => rfl) (fun _ _ _ _ _ => trivial) tw199 (by decide +kernel)) ?_
  refine ak (ok_iload_n (k := 3) rfl (by decide +kernel)) ?_
  refine ak (ok_iadd (by decide +kernel)) ?_
  refine ak (ok_put (k := 0) ck1 kd6 (by decide) (fun _ _ _ => rfl) rfl rfl (by decide) tw199 (by decide +kernel)) ?_
  refine ak (ok_return rfl (by decide +kernel)) ?_
  exact trivial
set_option maxRecDepth 1000000 in
theorem eW_coinToCompany (w0 : Nat) (x1 : Int32) (x2 : Int32) (x3 : Int32) (M : Mem) : run (cW_coinToCompany) (fun _ _ _ _ => none) rtV 400 (seek (cW_coinToCompany) 0) [aR (1, w0, 0), aI x1, aI x2, aI x3] [] M = mW_coinToCompany w0 x1 x2 x3 M := id rfl
theorem lW_coinToCompany {E : EV} {l : Launch} {p : Program} {e : Env} {s : State} {m : MethodId} {args : Array Value} {below : List Frame} {meth : Method} {c : Code} (A : AllOK E l 1 "FreeLances$World" prog_11_method_8_code 4 none outV (cW_coinToCompany)) (C : Cx E p s m args meth c "FreeLances$World" prog_11_method_8_code 4 none) : ∀ (w0 : Nat) (x1 : Int32) (x2 : Int32) (x3 : Int32) (M : Mem) (res : Mem), mW_coinToCompany w0 x1 x2 x3 M = some res → Wm E p l e 1 s m args below meth c 4 0 [aR (1, w0, 0), aI x1, aI x2, aI x3] [] M (outV res).1 (outV res).2 := by
  intro w0 x1 x2 x3 M res h
  refine run_at C A rfl hrtV (n := 400) ((eW_coinToCompany w0 x1 x2 x3 M).trans h) ?_
  intro t als st M hk; cases hk
def dW_coinToCompany {β : Type} : Den β := fun as M k => match as with
  | [.inr (.inr (.inl (al0, w0, cl0))), .inl x1, .inl x2, .inl x3] => if al0 = 1 ∧ cl0 = 0 then (mW_coinToCompany w0 x1 x2 x3 M).bind fun q => k aU q else none
  | _ => none
theorem wW_coinToCompany {E : EV} (hsd : E.2.2.2 = 0) (l : Launch) (w0 : Nat) (x1 : Int32) (x2 : Int32) (x3 : Int32) (M : Mem) (q : Mem) (hq : mW_coinToCompany w0 x1 x2 x3 M = some q) : Con E l 1 yW_coinToCompany prog_11_method_8_code 4 none [aR (1, w0, 0), aI x1, aI x2, aI x3] M (outV q).1 (outV q).2 := by
  refine con_of iW_coinToCompany (Nat.le_of_ble_eq_true rfl) ?_
  intro p e s m args below meth c C
  exact lW_coinToCompany (oW_coinToCompany hsd l) C w0 x1 x2 x3 M _ hq
theorem kW_coinToCompany {E : EV} (hsd : E.2.2.2 = 0) (l : Launch) {β : Type} : DenOK E l 1 yW_coinToCompany prog_11_method_8_code 4 none false (dW_coinToCompany (β := β)) := by
  intro as M k res h
  unfold dW_coinToCompany at h
  split at h
  ·
    split at h
    · rename_i hc
      obtain ⟨rfl, rfl⟩ := hc
      obtain ⟨q, hq, hk⟩ := Option.bind_eq_some_iff.mp h
      exact ⟨aU, q, hk, rfl, wW_coinToCompany hsd l _ _ _ _ M q hq⟩
    · cases h
  · cases h
theorem qW_coinToCompany {β : Type} : RecOK 1 (dW_coinToCompany (β := β)) := by
  intro as M k res h
  unfold dW_coinToCompany at h
  split at h
  ·
    split at h
    · rename_i hc
      obtain ⟨rfl, rfl⟩ := hc
      exact ⟨_, _, _, rfl⟩
    · cases h
  · cases h
/-! ===== FreeLances.advance(II)I ===== -/
abbrev yF_advance : MethodName := ⟨"FreeLances", "advance", "(II)I"⟩
theorem iF_advance : MI yF_advance prog_1_method_22_code 5 (some .int) 2 := ⟨tw832, tw97, ⟨by decide, by decide⟩, by decide +kernel, by decide, by decide⟩
def cF_advance : List (Ent (Int32 × Mem)) := [(false, 0, 1, sLdA 0),
  (false, 1, 1, sLdI 1),
  (false, 2, 3, sInv 2 true dF_isBond),
  (false, 5, 3, sIfEq 19),
  (false, 8, 1, sLdI 2),
  (false, 9, 1, sC 1),
  (false, 10, 3, sC 9999),
  (false, 13, 3, sInv 3 true dF_within),
  (false, 16, 3, sIfNe 25),
  (false, 19, 1, sLdA 0),
  (false, 20, 1, sC 1),
  (false, 21, 3, sInv 2 true dF_finding),
  (false, 24, 1, sRetI),
  (false, 25, 1, sLdA 0),
  (false, 26, 3, sGet 0 (fun w i M => aR (1, 0, 0))),
  (false, 29, 3, sGet 1 (fun w i M => aR (14, w, 0))),
  (false, 32, 1, sLdI 1),
  (false, 33, 1, sAald 14 24 15),
  (false, 34, 1, sStA 3),
  (false, 35, 1, sLdA 3),
  (false, 36, 3, sInv 1 true dB_isContract),
  (false, 39, 3, sIfNe 48),
  (false, 42, 1, sLdA 0),
  (false, 43, 1, sC 5),
  (false, 44, 3, sInv 2 true dF_finding),
  (false, 47, 1, sRetI),
  (false, 48, 1, sLdA 0),
  (false, 49, 3, sGet 0 (fun w i M => aR (1, 0, 0))),
  (false, 52, 3, sGet 1 (fun w i M => aR (2, w, 0))),
  (false, 55, 1, sLdA 3),
  (false, 56, 3, sGet 15 (fun w i M => aI (M 15 w i 5))),
  (false, 59, 1, sAald 2 8 3),
  (false, 60, 3, sGet 3 (fun w i M => aI (M 3 w i 0))),
  (false, 63, 1, sLdI 2),
  (false, 64, 3, sCmpGe 73),
  (false, 67, 1, sLdA 0),
  (false, 68, 1, sC 2),
  (false, 69, 3, sInv 2 true dF_finding),
  (false, 72, 1, sRetI),
  (false, 73, 1, sLdA 0),
  (false, 74, 3, sGet 0 (fun w i M => aR (1, 0, 0))),
  (false, 77, 3, sInv 1 true dW_bondsFull),
  (false, 80, 3, sIfEq 89),
  (false, 83, 1, sLdA 0),
  (false, 84, 1, sC 4),
  (false, 85, 3, sInv 2 true dF_finding),
  (false, 88, 1, sRetI),
  (false, 89, 1, sLdA 0),
  (false, 90, 3, sGet 0 (fun w i M => aR (1, 0, 0))),
  (false, 93, 1, sLdA 3),
  (false, 94, 3, sGet 15 (fun w i M => aI (M 15 w i 5))),
  (false, 97, 1, sLdA 3),
  (false, 98, 3, sGet 15 (fun w i M => aI (M 15 w i 1))),
  (false, 101, 1, sLdI 2),
  (false, 102, 3, sInv 4 false dW_coinToCompany),
  (false, 105, 1, sLdA 3),
  (false, 106, 1, sDup),
  (false, 107, 3, sGet 15 (fun w i M => aI (M 15 w i 10))),
  (false, 110, 1, sLdI 2),
  (false, 111, 1, sBin (fun x y => x + y)),
  (false, 112, 3, sPut 15 10),
  (false, 115, 1, sLdA 0),
  (false, 116, 1, sC 3),
  (false, 117, 1, sLdA 3),
  (false, 118, 3, sGet 15 (fun w i M => aI (M 15 w i 1))),
  (false, 121, 1, sLdI 2),
  (false, 122, 3, sInv 4 true dF_newBond),
  (false, 125, 2, sStA 4),
  (false, 127, 2, sLdA 4),
  (false, 129, 1, sLdA 3),
  (false, 130, 3, sGet 15 (fun w i M => aI (M 15 w i 5))),
  (false, 133, 3, sPut 15 5),
  (false, 136, 2, sLdA 4),
  (false, 138, 1, sLdI 1),
  (false, 139, 3, sPut 15 7),
  (false, 142, 1, sLdA 0),
  (false, 143, 3, sGet 0 (fun w i M => aR (1, 0, 0))),
  (false, 146, 1, sDup),
  (false, 147, 3, sGet 1 (fun w i M => aI (M 1 w i 12))),
  (false, 150, 1, sDupX1),
  (false, 151, 1, sC 1),
  (false, 152, 1, sBin (fun x y => x + y)),
  (false, 153, 3, sPut 1 12),
  (false, 156, 1, sRetI)]
theorem oF_advance {E : EV} (hsd : E.2.2.2 = 0) (l : Launch) : AllOK E l 3 "FreeLances" prog_1_method_22_code 5 (some .int) outI (cF_advance) := by
  refine ak (ok_aload_n (k := 0) rfl (by decide +kernel)) ?_
  refine ak (ok_iload_n (k := 1) rfl (by decide +kernel)) ?_
  refine ak (ok_invV (r := 0) (kF_isBond hsd l) qF_isBond ck10 kd0 iF_isBond tw826 tw18 (by decide) tw824 (by decide +kernel)) ?_
  refine ak (ok_if_eq (off := 14) (by decide) (by decide +kernel)) ?_
  refine ak (ok_iload_n (k := 2) rfl (by decide +kernel)) ?_
  refine ak (ok_iconst (n := 1) (by decide) (by decide +kernel)) ?_
  refine ak (ok_sipush (n := 9999) (by decide) (by decide +kernel)) ?_
  refine ak (ok_invS (kF_within hsd l) iF_within tw553 (by decide) tw552 (by decide +kernel)) ?_
  refine ak (ok_if_ne (off := 9) (by decide) (by decide +kernel)) ?_
  refine ak (ok_aload_n (k := 0) rfl (by decide +kernel)) ?_
  refine ak (ok_iconst (n := 1) (by decide) (by decide +kernel)) ?_
  refine ak (ok_invV (r := 0) (kF_finding hsd l) qF_finding ck10 kd0 iF_finding tw557 tw0 (by decide) tw555 (by decide +kernel)) ?_
  refine ak (ok_ireturn rfl (by decide +kernel)) ?_
  refine ak (ok_aload_n (k := 0) rfl (by decide +kernel)) ?_
  refine ak (ok_get (k := 0) ck10 kd0 (by decide) (fun _ _ _ => rfl) (vf_0_0 hsd) tw522 (by decide +kernel)) ?_
  refine ak (ok_get (k := 11) ck9 kd1 (by decide) (fun _ _ _ => rfl) (vf_1_11 hsd) tw411 (by decide +kernel)) ?_
  refine ak (ok_iload_n (k := 1) rfl (by decide +kernel)) ?_
  refine ak (ok_aald (t0 := 6) (C := RX0) kd14 (by decide) rfl (vr_14 hsd) (by decide +kernel)) ?_
  refine ak (ok_astore_n (k := 3) rfl (by decide) (by decide +kernel)) ?_
  refine ak (ok_aload_n (k := 3) rfl (by decide +kernel)) ?_
  refine ak (ok_invV (r := 15) (kB_isContract hsd l) qB_isContract ck0 kd15 iB_isContract tw643 tw644 (by decide) tw828 (by decide +kernel)) ?_
  refine ak (ok_if_ne (off := 9) (by decide) (by decide +kernel)) ?_
  refine ak (ok_aload_n (k := 0) rfl (by decide +kernel)) ?_
  refine ak (ok_iconst (n := 5) (by decide) (by decide +kernel)) ?_
  refine ak (ok_invV (r := 0) (kF_finding hsd l) qF_finding ck10 kd0 iF_finding tw557 tw0 (by decide) tw555 (by decide +kernel)) ?_
  refine ak (ok_ireturn rfl (by decide +kernel)) ?_
  refine ak (ok_aload_n (k := 0) rfl (by decide +kernel)) ?_
  refine ak (ok_get (k := 0) ck10 kd0 (by decide) (fun _ _ _ => rfl) (vf_0_0 hsd) tw522 (by decide +kernel)) ?_
  refine ak (ok_get (k := 1) ck9 kd1 (by decide) (fun _ _ _ => rfl) (vf_1_1 hsd) tw389 (by decide +kernel)) ?_
  refine ak (ok_aload_n (k := 3) rfl (by decide +kernel)) ?_
  refine ak (ok_get (k := 5) ck0 kd15 (by decide) (fun _ _ _ => rfl) (fun _ _ _ _ _ => trivial) tw341 (by decide +kernel)) ?_
  refine ak (ok_aald (t0 := 2) (C := RX7) kd2 (by decide) rfl (vr_2 hsd) (by decide +kernel)) ?_
  refine ak (ok_get (k := 0) ck7 kd3 (by decide) (fun _ _ _ => rfl) (fun _ _ _ _ _ => trivial) tw175 (by decide +kernel)) ?_
  refine ak (ok_iload_n (k := 2) rfl (by decide +kernel)) ?_
  refine ak (ok_icmp_ge (off := 9) (by decide) (by decide +kernel)) ?_
  refine ak (ok_aload_n (k := 0) rfl (by decide +kernel)) ?_
  refine ak (ok_iconst (n := 2) (by decide) (by decide +kernel)) ?_
  refine ak (ok_invV (r := 0) (kF_finding hsd l) qF_finding ck10 kd0 iF_finding tw557 tw0 (by decide) tw555 (by decide +kernel)) ?_
  refine ak (ok_ireturn rfl (by decide +kernel)) ?_
  refine ak (ok_aload_n (k := 0) rfl (by decide +kernel)) ?_
  refine ak (ok_get (k := 0) ck10 kd0 (by decide) (fun _ _ _ => rfl) (vf_0_0 hsd) tw522 (by decide +kernel)) ?_
  refine ak (ok_invV (r := 1) (kW_bondsFull hsd l) qW_bondsFull ck9 kd1 iW_bondsFull tw809 tw810 (by decide) tw808 (by decide +kernel)) ?_
  refine ak (ok_if_eq (off := 9) (by decide) (by decide +kernel)) ?_
  refine ak (ok_aload_n (k := 0) rfl (by decide +kernel)) ?_
  refine ak (ok_iconst (n := 4) (by decide) (by decide +kernel)) ?_
  refine ak (ok_invV (r := 0) (kF_finding hsd l) qF_finding ck10 kd0 iF_finding tw557 tw0 (by decide) tw555 (by decide +kernel)) ?_
  refine ak (ok_ireturn rfl (by decide +kernel)) ?_
  refine ak (ok_aload_n (k := 0) rfl (by decide +kernel)) ?_
  refine ak (ok_get (k := 0) ck10 kd0 (by decide) (fun _ _ _ => rfl) (vf_0_0 hsd) tw522 (by decide +kernel)) ?_
  refine ak (ok_aload_n (k := 3) rfl (by decide +kernel)) ?_
  refine ak (ok_get (k := 5) ck0 kd15 (by decide) (fun _ _ _ => rfl) (fun _ _ _ _ _ => trivial) tw341 (by decide +kernel)) ?_
  refine ak (ok_aload_n (k := 3) rfl (by decide +kernel)) ?_
  refine ak (ok_get (k := 1) ck0 kd15 (by decide) (fun _ _ _ => rfl) (fun _ _ _ _ _ => trivial) tw329 (by decide +kernel)) ?_
  refine ak (ok_iload_n (k := 2) rfl (by decide +kernel)) ?_
  refine ak (ok_invV (r := 1) (kW_coinToCompany hsd l) qW_coinToCompany ck9 kd1 iW_coinToCompany tw834 tw835 (by decide) tw833 (by decide +kernel)) ?_
  refine ak (ok_aload_n (k := 3) rfl (by decide +kernel)) ?_
  refine ak (ok_dup (by decide +kernel)) ?_
  refine ak (ok_get (k := 10) ck0 kd15 (by decide) (fun _ _ _ => rfl) (fun _ _ _ _ _ => trivial) tw356 (by decide +kernel)) ?_
  refine ak (ok_iload_n (k := 2) rfl (by decide +kernel)) ?_
  refine ak (ok_iadd (by decide +kernel)) ?_
  refine ak (ok_put (k := 10) ck0 kd15 (by decide) (fun _ _ _ => rfl) rfl rfl (by decide) tw356 (by decide +kernel)) ?_
  refine ak (ok_aload_n (k := 0) rfl (by decide +kernel)) ?_
  refine ak (ok_iconst (n := 3) (by decide) (by decide +kernel)) ?_
  refine ak (ok_aload_n (k := 3) rfl (by decide +kernel)) ?_
  refine ak (ok_get (k := 1) ck0 kd15 (by decide) (fun _ _ _ => rfl) (fun _ _ _ _ _ => trivial) tw329 (by decide +kernel)) ?_
  refine ak (ok_iload_n (k := 2) rfl (by decide +kernel)) ?_
  refine ak (ok_invV (r := 0) (kF_newBond hsd l) qF_newBond ck10 kd0 iF_newBond tw814 tw17 (by decide) tw812 (by decide +kernel)) ?_
  refine ak (ok_astore (by decide) (by decide +kernel)) ?_
  refine ak (ok_aload (by decide +kernel)) ?_
  refine ak (ok_aload_n (k := 3) rfl (by decide +kernel)) ?_
  refine ak (ok_get (k := 5) ck0 kd15 (by decide) (fun _ _ _ => rfl) (fun _ _ _ _ _ => trivial) tw341 (by decide +kernel)) ?_
  refine ak (ok_put (k := 5) ck0 kd15 (by decide) (fun _ _ _ => rfl) rfl rfl (by decide) tw341 (by decide +kernel)) ?_
  refine ak (ok_aload (by decide +kernel)) ?_
  refine ak (ok_iload_n (k := 1) rfl (by decide +kernel)) ?_
  refine ak (ok_put (k := 7) ck0 kd15 (by decide) (fun _ _ _ => rfl) rfl rfl (by decide) tw346 (by decide +kernel)) ?_
  refine ak (ok_aload_n (k := 0) rfl (by decide +kernel)) ?_
  refine ak (ok_get (k := 0) ck10 kd0 (by decide) (fun _ _ _ => rfl) (vf_0_0 hsd) tw522 (by decide +kernel)) ?_
  refine ak (ok_dup (by decide +kernel)) ?_
  refine ak (ok_get (k := 12) ck9 kd1 (by decide) (fun _ _ _ => rfl) (fun _ _ _ _ _ => trivial) tw413 (by decide +kernel)) ?_
  refine ak (ok_dup_x1 (by decide +kernel)) ?_
  refine ak (ok_iconst (n := 1) (by decide) (by decide +kernel)) ?_
  refine ak (ok_iadd (by decide +kernel)) ?_
  refine ak (ok_put (k := 12) ck9 kd1 (by decide) (fun _ _ _ => rfl) rfl rfl (by decide) tw413 (by decide +kernel)) ?_
  refine ak (ok_ireturn rfl (by decide +kernel)) ?_
  exact trivial
set_option maxRecDepth 1000000 in
theorem eF_advance (x1 : Int32) (x2 : Int32) (M : Mem) : run (cF_advance) (fun _ _ _ _ => none) rtI 400 (seek (cF_advance) 0) [aR (0, 0, 0), aI x1, aI x2, aU, aU] [] M = mF_advance x1 x2 M := id rfl
theorem lF_advance {E : EV} {l : Launch} {p : Program} {e : Env} {s : State} {m : MethodId} {args : Array Value} {below : List Frame} {meth : Method} {c : Code} (A : AllOK E l 3 "FreeLances" prog_1_method_22_code 5 (some .int) outI (cF_advance)) (C : Cx E p s m args meth c "FreeLances" prog_1_method_22_code 5 (some .int)) : ∀ (x1 : Int32) (x2 : Int32) (M : Mem) (res : (Int32 × Mem)), mF_advance x1 x2 M = some res → Wm E p l e 3 s m args below meth c 5 0 [aR (0, 0, 0), aI x1, aI x2, aU, aU] [] M (outI res).1 (outI res).2 := by
  intro x1 x2 M res h
  refine run_at C A rfl hrtI (n := 400) ((eF_advance x1 x2 M).trans h) ?_
  intro t als st M hk; cases hk
def dF_advance {β : Type} : Den β := fun as M k => match as with
  | [.inr (.inr (.inl (al0, bl0, cl0))), .inl x1, .inl x2] => if al0 = 0 ∧ bl0 = 0 ∧ cl0 = 0 then (mF_advance x1 x2 M).bind fun q => k (aI q.1) q.2 else none
  | _ => none
theorem wF_advance {E : EV} (hsd : E.2.2.2 = 0) (l : Launch) (x1 : Int32) (x2 : Int32) (M : Mem) (q : (Int32 × Mem)) (hq : mF_advance x1 x2 M = some q) : Con E l 3 yF_advance prog_1_method_22_code 5 (some .int) [aR (0, 0, 0), aI x1, aI x2] M (outI q).1 (outI q).2 := by
  refine con_of iF_advance (Nat.le_of_ble_eq_true rfl) ?_
  intro p e s m args below meth c C
  exact lF_advance (oF_advance hsd l) C x1 x2 M _ hq
theorem kF_advance {E : EV} (hsd : E.2.2.2 = 0) (l : Launch) {β : Type} : DenOK E l 3 yF_advance prog_1_method_22_code 5 (some .int) true (dF_advance (β := β)) := by
  intro as M k res h
  unfold dF_advance at h
  split at h
  ·
    split at h
    · rename_i hc
      obtain ⟨rfl, rfl, rfl⟩ := hc
      obtain ⟨q, hq, hk⟩ := Option.bind_eq_some_iff.mp h
      exact ⟨aI q.1, q.2, hk, rfl, wF_advance hsd l _ _ M q hq⟩
    · cases h
  · cases h
theorem qF_advance {β : Type} : RecOK 0 (dF_advance (β := β)) := by
  intro as M k res h
  unfold dF_advance at h
  split at h
  ·
    split at h
    · rename_i hc
      obtain ⟨rfl, rfl, rfl⟩ := hc
      exact ⟨_, _, _, rfl⟩
    · cases h
  · cases h
