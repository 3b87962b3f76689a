theorem tw0 : Cond.selects "FreeLances" ⟨"FreeLances", "finding", "(I)I"⟩ ⟨"FreeLances", "finding", "(I)I"⟩ ∈ tbT := tb_at 0 (by decide +kernel) rfl
theorem tw37 : Cond.selects "FreeLancesModel" ⟨"FreeLancesModel", "finds", "(I)I"⟩ ⟨"FreeLancesModel", "finds", "(I)I"⟩ ∈ tbT := tb_at 37 (by decide +kernel) rfl
theorem tw97 : Cond.initialized "FreeLances" ∈ tbT := tb_at 97 (by decide +kernel) rfl
theorem tw98 : Cond.initialized "FreeLances$World" ∈ tbT := tb_at 98 (by decide +kernel) rfl
theorem tw100 : Cond.initialized "FreeLances$Town" ∈ tbT := tb_at 100 (by decide +kernel) rfl
theorem tw104 : Cond.initialized "FreeLances$Bond" ∈ tbT := tb_at 104 (by decide +kernel) rfl
theorem tw107 : Cond.initialized "FreeLances$Plans" ∈ tbT := tb_at 107 (by decide +kernel) rfl
theorem tw108 : Cond.initialized "FreeLancesModel" ∈ tbT := tb_at 108 (by decide +kernel) rfl
theorem tw109 : Cond.initialized "java/lang/Math" ∈ tbT := tb_at 109 (by decide +kernel) rfl
theorem tw174 : Cond.fieldLink "FreeLances$Town" 7 "FreeLances$Town" "coin" "I" ∈ tbT := tb_at 174 (by decide +kernel) rfl
theorem tw177 : Cond.fieldLink "FreeLances$Town" 13 "FreeLances$Town" "bread" "I" ∈ tbT := tb_at 177 (by decide +kernel) rfl
theorem tw180 : Cond.fieldLink "FreeLances$Town" 16 "FreeLances$Town" "wall" "I" ∈ tbT := tb_at 180 (by decide +kernel) rfl
theorem tw182 : Cond.fieldLink "FreeLances$Town" 19 "FreeLances$Town" "guns" "I" ∈ tbT := tb_at 182 (by decide +kernel) rfl
theorem tw208 : Cond.fieldLink "FreeLances$World" 124 "FreeLances$Company" "town" "I" ∈ tbT := tb_at 208 (by decide +kernel) rfl
theorem tw324 : Cond.fieldLink "FreeLances$Bond" 9 "FreeLances$Bond" "kind" "I" ∈ tbT := tb_at 324 (by decide +kernel) rfl
theorem tw389 : Cond.fieldLink "FreeLances" 63 "FreeLances$World" "towns" "[LFreeLances$Town;" ∈ tbT := tb_at 389 (by decide +kernel) rfl
theorem tw390 : Cond.fieldLink "FreeLances$World" 69 "FreeLances$World" "townCount" "I" ∈ tbT := tb_at 390 (by decide +kernel) rfl
theorem tw391 : Cond.fieldLink "FreeLances" 60 "FreeLances$World" "townCount" "I" ∈ tbT := tb_at 391 (by decide +kernel) rfl
theorem tw395 : Cond.fieldLink "FreeLances$World" 17 "FreeLances$World" "ways" "[I" ∈ tbT := tb_at 395 (by decide +kernel) rfl
theorem tw396 : Cond.fieldLink "FreeLances$World" 23 "FreeLances$World" "companies" "[LFreeLances$Company;" ∈ tbT := tb_at 396 (by decide +kernel) rfl
theorem tw399 : Cond.fieldLink "FreeLances$World" 75 "FreeLances$World" "companyCount" "I" ∈ tbT := tb_at 399 (by decide +kernel) rfl
theorem tw522 : Cond.fieldLink "FreeLances" 10 "FreeLances" "world" "LFreeLances$World;" ∈ tbT := tb_at 522 (by decide +kernel) rfl
theorem tw528 : Cond.fieldLink "FreeLances" 43 "FreeLances" "findings" "[I" ∈ tbT := tb_at 528 (by decide +kernel) rfl
theorem tw550 : Cond.code ⟨"FreeLances", "town", "(II)I"⟩ prog_1_method_2_code 3 (some .int) ∈ tbT := tb_at 550 (by decide +kernel) rfl
theorem tw551 : Cond.constant "FreeLances" 51 99999 ∈ tbT := tb_at 551 (by decide +kernel) rfl
theorem tw552 : Cond.methodLink "FreeLances" 52 ⟨"FreeLances", "within", "(III)Z"⟩ ∈ tbT := tb_at 552 (by decide +kernel) rfl
theorem tw553 : Cond.static ⟨"FreeLances", "within", "(III)Z"⟩ ∈ tbT := tb_at 553 (by decide +kernel) rfl
theorem tw554 : Cond.code ⟨"FreeLances", "within", "(III)Z"⟩ prog_1_method_57_code 3 (some .boolean) ∈ tbT := tb_at 554 (by decide +kernel) rfl
theorem tw555 : Cond.methodLink "FreeLances" 56 ⟨"FreeLances", "finding", "(I)I"⟩ ∈ tbT := tb_at 555 (by decide +kernel) rfl
theorem tw557 : Cond.instanceMethod ⟨"FreeLances", "finding", "(I)I"⟩ ∈ tbT := tb_at 557 (by decide +kernel) rfl
theorem tw558 : Cond.code ⟨"FreeLances", "finding", "(I)I"⟩ prog_1_method_56_code 2 (some .int) ∈ tbT := tb_at 558 (by decide +kernel) rfl
theorem tw559 : Cond.constant "FreeLances" 465 (-1000000) ∈ tbT := tb_at 559 (by decide +kernel) rfl
theorem tw560 : Cond.methodLink "FreeLances" 67 ⟨"FreeLances$Town", "begin", "(II)V"⟩ ∈ tbT := tb_at 560 (by decide +kernel) rfl
theorem tw561 : Cond.instanceMethod ⟨"FreeLances$Town", "begin", "(II)V"⟩ ∈ tbT := tb_at 561 (by decide +kernel) rfl
theorem tw562 : Cond.selects "FreeLances$Town" ⟨"FreeLances$Town", "begin", "(II)V"⟩ ⟨"FreeLances$Town", "begin", "(II)V"⟩ ∈ tbT := tb_at 562 (by decide +kernel) rfl
theorem tw563 : Cond.code ⟨"FreeLances$Town", "begin", "(II)V"⟩ prog_9_method_2_code 3 none ∈ tbT := tb_at 563 (by decide +kernel) rfl
theorem tw571 : Cond.code ⟨"FreeLances", "isTown", "(I)Z"⟩ prog_1_method_63_code 2 (some .boolean) ∈ tbT := tb_at 571 (by decide +kernel) rfl
theorem tw575 : Cond.code ⟨"FreeLances$World", "join", "(III)V"⟩ prog_11_method_4_code 9 none ∈ tbT := tb_at 575 (by decide +kernel) rfl
theorem tw576 : Cond.methodLink "FreeLances$World" 115 ⟨"FreeLances$World", "way", "(II)I"⟩ ∈ tbT := tb_at 576 (by decide +kernel) rfl
theorem tw577 : Cond.instanceMethod ⟨"FreeLances$World", "way", "(II)I"⟩ ∈ tbT := tb_at 577 (by decide +kernel) rfl
theorem tw578 : Cond.selects "FreeLances$World" ⟨"FreeLances$World", "way", "(II)I"⟩ ⟨"FreeLances$World", "way", "(II)I"⟩ ∈ tbT := tb_at 578 (by decide +kernel) rfl
theorem tw579 : Cond.code ⟨"FreeLances$World", "way", "(II)I"⟩ prog_11_method_3_code 3 (some .int) ∈ tbT := tb_at 579 (by decide +kernel) rfl
theorem tw580 : Cond.methodLink "FreeLances$World" 119 ⟨"java/lang/Math", "min", "(II)I"⟩ ∈ tbT := tb_at 580 (by decide +kernel) rfl
theorem tw581 : Cond.static ⟨"java/lang/Math", "min", "(II)I"⟩ ∈ tbT := tb_at 581 (by decide +kernel) rfl
theorem tw596 : Cond.code ⟨"FreeLances$World", "lyingIn", "(I)I"⟩ prog_11_method_5_code 4 (some .int) ∈ tbT := tb_at 596 (by decide +kernel) rfl
theorem tw856 : Cond.code ⟨"FreeLances$Bond", "isOf", "(I)Z"⟩ prog_2_method_4_code 4 (some .boolean) ∈ tbT := tb_at 856 (by decide +kernel) rfl
theorem tw857 : Cond.fieldLinkNest "FreeLances$Bond" 49 "FreeLances" "ABOVE" "[I" "FreeLances" ∈ tbT := tb_at 857 (by decide +kernel) rfl
theorem tw1047 : Cond.code ⟨"FreeLances$Plans", "hirePlace", "(II)I"⟩ prog_5_method_11_code 2 (some .int) ∈ tbT := tb_at 1047 (by decide +kernel) rfl
theorem tw1242 : Cond.fieldLink "FreeLancesModel" 7 "FreeLancesModel" "now" "[I" ∈ tbT := tb_at 1242 (by decide +kernel) rfl
theorem tw1245 : Cond.fieldLink "FreeLancesModel" 19 "FreeLancesModel" "found" "[I" ∈ tbT := tb_at 1245 (by decide +kernel) rfl
theorem tw1327 : Cond.code ⟨"FreeLancesModel", "town", "(II)I"⟩ prog_13_method_19_code 4 (some .int) ∈ tbT := tb_at 1327 (by decide +kernel) rfl
theorem tw1328 : Cond.constant "FreeLancesModel" 72 99999 ∈ tbT := tb_at 1328 (by decide +kernel) rfl
theorem tw1329 : Cond.methodLink "FreeLancesModel" 68 ⟨"FreeLancesModel", "in", "(III)Z"⟩ ∈ tbT := tb_at 1329 (by decide +kernel) rfl
theorem tw1330 : Cond.static ⟨"FreeLancesModel", "in", "(III)Z"⟩ ∈ tbT := tb_at 1330 (by decide +kernel) rfl
theorem tw1331 : Cond.code ⟨"FreeLancesModel", "in", "(III)Z"⟩ prog_13_method_3_code 3 (some .boolean) ∈ tbT := tb_at 1331 (by decide +kernel) rfl
theorem tw1332 : Cond.methodLink "FreeLancesModel" 73 ⟨"FreeLancesModel", "finds", "(I)I"⟩ ∈ tbT := tb_at 1332 (by decide +kernel) rfl
theorem tw1334 : Cond.instanceMethod ⟨"FreeLancesModel", "finds", "(I)I"⟩ ∈ tbT := tb_at 1334 (by decide +kernel) rfl
theorem tw1335 : Cond.code ⟨"FreeLancesModel", "finds", "(I)I"⟩ prog_13_method_4_code 2 (some .int) ∈ tbT := tb_at 1335 (by decide +kernel) rfl
theorem tw1336 : Cond.constant "FreeLancesModel" 67 (-1000000) ∈ tbT := tb_at 1336 (by decide +kernel) rfl
/-! ===== FreeLances.within(III)Z ===== -/
abbrev yF_within : MethodName := ⟨"FreeLances", "within", "(III)Z"⟩
theorem iF_within : MI yF_within prog_1_method_57_code 3 (some .boolean) 3 := ⟨tw554, tw97, ⟨by decide, by decide⟩, by decide +kernel, by decide, by decide⟩
def mF_within (x0 : Int32) (x1 : Int32) (x2 : Int32) (M : Mem) : Option (Int32 × Mem) :=
  if x1 ≤ x0 then
    if x0 ≤ x2 then
      some (1, M)
    else
      some (0, M)
  else
    some (0, M)
def cF_within : List (Ent (Int32 × Mem)) := [(false, 0, 1, sLdI 1),
  (false, 1, 1, sLdI 0),
  (false, 2, 3, sCmpGt 14),
  (false, 5, 1, sLdI 0),
  (false, 6, 1, sLdI 2),
  (false, 7, 3, sCmpGt 14),
  (false, 10, 1, sC 1),
  (false, 11, 3, sGoto 15),
  (false, 14, 1, sC 0),
  (false, 15, 1, sRetZ)]
theorem oF_within {E : EV} (hsd : E.2.2.2 = 0) (l : Launch) : AllOK E l 1 "FreeLances" prog_1_method_57_code 3 (some .boolean) outI (cF_within) := by
  refine ak (ok_iload_n (k := 1) rfl (by decide +kernel)) ?_
  refine ak (ok_iload_n (k := 0) rfl (by decide +kernel)) ?_
  refine ak (ok_icmp_gt (off := 12) (by decide) (by decide +kernel)) ?_
  refine ak (ok_iload_n (k := 0) rfl (by decide +kernel)) ?_
  refine ak (ok_iload_n (k := 2) rfl (by decide +kernel)) ?_
  refine ak (ok_icmp_gt (off := 7) (by decide) (by decide +kernel)) ?_
  refine ak (ok_iconst (n := 1) (by decide) (by decide +kernel)) ?_
  refine ak (ok_goto (off := 4) (by decide) (by decide +kernel)) ?_
  refine ak (ok_iconst (n := 0) (by decide) (by decide +kernel)) ?_
  refine ak (ok_zreturn rfl (by decide +kernel)) ?_
  exact trivial
set_option maxRecDepth 100000 in
theorem eF_within (x0 : Int32) (x1 : Int32) (x2 : Int32) (M : Mem) : run (cF_within) (fun _ _ _ _ => none) rtI 400 (seek (cF_within) 0) [aI x0, aI x1, aI x2] [] M = mF_within x0 x1 x2 M := rfl
theorem lF_within {E : EV} {l : Launch} {p : Program} {e : Env} {s : State} {m : MethodId} {args : Array Value} {below : List Frame} {meth : Method} {c : Code} (A : AllOK E l 1 "FreeLances" prog_1_method_57_code 3 (some .boolean) outI (cF_within)) (C : Cx E p s m args meth c "FreeLances" prog_1_method_57_code 3 (some .boolean)) : ∀ (x0 : Int32) (x1 : Int32) (x2 : Int32) (M : Mem) (res : (Int32 × Mem)), mF_within x0 x1 x2 M = some res → Wm E p l e 1 s m args below meth c 3 0 [aI x0, aI x1, aI x2] [] M (outI res).1 (outI res).2 := by
  intro x0 x1 x2 M res h
  refine run_at C A rfl hrtI (n := 400) ((eF_within x0 x1 x2 M).trans h) ?_
  intro t als st M hk; cases hk
def dF_within {β : Type} : Den β := fun as M k => match as with
  | [.inl x0, .inl x1, .inl x2] => (mF_within x0 x1 x2 M).bind fun q => k (aI q.1) q.2
  | _ => none
theorem wF_within {E : EV} (hsd : E.2.2.2 = 0) (l : Launch) (x0 : Int32) (x1 : Int32) (x2 : Int32) (M : Mem) (q : (Int32 × Mem)) (hq : mF_within x0 x1 x2 M = some q) : Con E l 1 yF_within prog_1_method_57_code 3 (some .boolean) [aI x0, aI x1, aI x2] M (outI q).1 (outI q).2 := by
  refine con_of iF_within (Nat.le_of_ble_eq_true rfl) ?_
  intro p e s m args below meth c C
  exact lF_within (oF_within hsd l) C x0 x1 x2 M _ hq
theorem kF_within {E : EV} (hsd : E.2.2.2 = 0) (l : Launch) {β : Type} : DenOK E l 1 yF_within prog_1_method_57_code 3 (some .boolean) true (dF_within (β := β)) := by
  intro as M k res h
  unfold dF_within at h
  split at h
  · obtain ⟨q, hq, hk⟩ := Option.bind_eq_some_iff.mp h
    exact ⟨aI q.1, q.2, hk, rfl, wF_within hsd l _ _ _ M q hq⟩
  · cases h
/-! ===== FreeLances.finding(I)I ===== -/
abbrev yF_finding : MethodName := ⟨"FreeLances", "finding", "(I)I"⟩
theorem iF_finding : MI yF_finding prog_1_method_56_code 2 (some .int) 1 := ⟨tw558, tw97, ⟨by decide, by decide⟩, by decide +kernel, by decide, by decide⟩
def mF_finding (x1 : Int32) (M : Mem) : Option (Int32 × Mem) :=
  ixx x1 6 fun k1 =>
  ixx x1 6 fun k3 =>
  let M2 : Mem := up M 26 0 0 k3 ((M 26 0 0 k1) + 1)
  some ((-1000000) - x1, M2)
def cF_finding : List (Ent (Int32 × Mem)) := [(false, 0, 1, sLdA 0),
  (false, 1, 3, sGet 0 (fun w i M => aR (26, 0, 0))),
  (false, 4, 1, sLdI 1),
  (false, 5, 1, sDup2),
  (false, 6, 1, sIald 26 6),
  (false, 7, 1, sC 1),
  (false, 8, 1, sBin (fun x y => x + y)),
  (false, 9, 1, sIast 26 6),
  (false, 10, 3, sC (-1000000)),
  (false, 13, 1, sLdI 1),
  (false, 14, 1, sBin (fun x y => x - y)),
  (false, 15, 1, sRetI)]
theorem oF_finding {E : EV} (hsd : E.2.2.2 = 0) (l : Launch) : AllOK E l 1 "FreeLances" prog_1_method_56_code 2 (some .int) outI (cF_finding) := by
  refine ak (ok_aload_n (k := 0) rfl (by decide +kernel)) ?_
  refine ak (ok_get (k := 6) ck10 kd0 (by decide) (fun _ _ _ => rfl) (vf_0_6 hsd) tw528 (by decide +kernel)) ?_
  refine ak (ok_iload_n (k := 1) rfl (by decide +kernel)) ?_
  refine ak (ok_dup2 (by decide +kernel)) ?_
  refine ak (ok_iald kd26 (by decide) (by decide +kernel)) ?_
  refine ak (ok_iconst (n := 1) (by decide) (by decide +kernel)) ?_
  refine ak (ok_iadd (by decide +kernel)) ?_
  refine ak (ok_iast kd26 (by decide) (by decide) (by decide +kernel)) ?_
  refine ak (ok_ldcw tw559 (by decide +kernel)) ?_
  refine ak (ok_iload_n (k := 1) rfl (by decide +kernel)) ?_
  refine ak (ok_isub (by decide +kernel)) ?_
  refine ak (ok_ireturn rfl (by decide +kernel)) ?_
  exact trivial
set_option maxRecDepth 100000 in
theorem eF_finding (x1 : Int32) (M : Mem) : run (cF_finding) (fun _ _ _ _ => none) rtI 400 (seek (cF_finding) 0) [aR (0, 0, 0), aI x1] [] M = mF_finding x1 M := rfl
theorem lF_finding {E : EV} {l : Launch} {p : Program} {e : Env} {s : State} {m : MethodId} {args : Array Value} {below : List Frame} {meth : Method} {c : Code} (A : AllOK E l 1 "FreeLances" prog_1_method_56_code 2 (some .int) outI (cF_finding)) (C : Cx E p s m args meth c "FreeLances" prog_1_method_56_code 2 (some .int)) : ∀ (x1 : Int32) (M : Mem) (res : (Int32 × Mem)), mF_finding x1 M = some res → Wm E p l e 1 s m args below meth c 2 0 [aR (0, 0, 0), aI x1] [] M (outI res).1 (outI res).2 := by
  intro x1 M res h
  refine run_at C A rfl hrtI (n := 400) ((eF_finding x1 M).trans h) ?_
  intro t als st M hk; cases hk
def dF_finding {β : Type} : Den β := fun as M k => match as with
  | [.inr (.inr (.inl (0, 0, 0))), .inl x1] => (mF_finding x1 M).bind fun q => k (aI q.1) q.2
  | _ => none
theorem wF_finding {E : EV} (hsd : E.2.2.2 = 0) (l : Launch) (x1 : Int32) (M : Mem) (q : (Int32 × Mem)) (hq : mF_finding x1 M = some q) : Con E l 1 yF_finding prog_1_method_56_code 2 (some .int) [aR (0, 0, 0), aI x1] M (outI q).1 (outI q).2 := by
  refine con_of iF_finding (Nat.le_of_ble_eq_true rfl) ?_
  intro p e s m args below meth c C
  exact lF_finding (oF_finding hsd l) C x1 M _ hq
theorem kF_finding {E : EV} (hsd : E.2.2.2 = 0) (l : Launch) {β : Type} : DenOK E l 1 yF_finding prog_1_method_56_code 2 (some .int) true (dF_finding (β := β)) := by
  intro as M k res h
  unfold dF_finding at h
  split at h
  · obtain ⟨q, hq, hk⟩ := Option.bind_eq_some_iff.mp h
    exact ⟨aI q.1, q.2, hk, rfl, wF_finding hsd l _ M q hq⟩
  · cases h
theorem qF_finding {β : Type} : RecOK 0 (dF_finding (β := β)) := by
  intro as M k res h
  unfold dF_finding at h
  split at h
  · exact ⟨_, _, _, rfl⟩
  · cases h
/-! ===== FreeLances$Town.begin(II)V ===== -/
abbrev yT_begin : MethodName := ⟨"FreeLances$Town", "begin", "(II)V"⟩
theorem iT_begin : MI yT_begin prog_9_method_2_code 3 none 2 := ⟨tw563, tw100, ⟨by decide, by decide⟩, by decide +kernel, by decide, by decide⟩
def mT_begin (w0 : Nat) (i0 : Nat) (x1 : Int32) (x2 : Int32) (M : Mem) : Option Mem :=
  let M1 : Mem := up M 3 w0 i0 0 x1
  let M2 : Mem := up M1 3 w0 i0 1 x2
  let M3 : Mem := up M2 3 w0 i0 2 100
  let M4 : Mem := up M3 3 w0 i0 3 0
  some M4
def cT_begin : List (Ent Mem) := [(false, 0, 1, sLdA 0),
  (false, 1, 1, sLdI 1),
  (false, 2, 3, sPut 3 0),
  (false, 5, 1, sLdA 0),
  (false, 6, 1, sLdI 2),
  (false, 7, 3, sPut 3 1),
  (false, 10, 1, sLdA 0),
  (false, 11, 2, sC 100),
  (false, 13, 3, sPut 3 2),
  (false, 16, 1, sLdA 0),
  (false, 17, 1, sC 0),
  (false, 18, 3, sPut 3 3),
  (false, 21, 1, sRetV)]
theorem oT_begin {E : EV} (hsd : E.2.2.2 = 0) (l : Launch) : AllOK E l 1 "FreeLances$Town" prog_9_method_2_code 3 none outV (cT_begin) := by
  refine ak (ok_aload_n (k := 0) rfl (by decide +kernel)) ?_
  refine ak (ok_iload_n (k := 1) rfl (by decide +kernel)) ?_
  refine ak (ok_put (k := 0) ck7 kd3 (by decide) (fun _ _ _ => rfl) rfl rfl (by decide) tw174 (by decide +kernel)) ?_
  refine ak (ok_aload_n (k := 0) rfl (by decide +kernel)) ?_
  refine ak (ok_iload_n (k := 2) rfl (by decide +kernel)) ?_
  refine ak (ok_put (k := 1) ck7 kd3 (by decide) (fun _ _ _ => rfl) rfl rfl (by decide) tw177 (by decide +kernel)) ?_
  refine ak (ok_aload_n (k := 0) rfl (by decide +kernel)) ?_
  refine ak (ok_bipush (n := 100) (by decide) (by decide +kernel)) ?_
  refine ak (ok_put (k := 2) ck7 kd3 (by decide) (fun _ _ _ => rfl) rfl rfl (by decide) tw180 (by decide +kernel)) ?_
  refine ak (ok_aload_n (k := 0) rfl (by decide +kernel)) ?_
  refine ak (ok_iconst (n := 0) (by decide) (by decide +kernel)) ?_
  refine ak (ok_put (k := 3) ck7 kd3 (by decide) (fun _ _ _ => rfl) rfl rfl (by decide) tw182 (by decide +kernel)) ?_
  refine ak (ok_return rfl (by decide +kernel)) ?_
  exact trivial
set_option maxRecDepth 100000 in
theorem eT_begin (w0 : Nat) (i0 : Nat) (x1 : Int32) (x2 : Int32) (M : Mem) : run (cT_begin) (fun _ _ _ _ => none) rtV 400 (seek (cT_begin) 0) [aR (3, w0, i0), aI x1, aI x2] [] M = mT_begin w0 i0 x1 x2 M := rfl
theorem lT_begin {E : EV} {l : Launch} {p : Program} {e : Env} {s : State} {m : MethodId} {args : Array Value} {below : List Frame} {meth : Method} {c : Code} (A : AllOK E l 1 "FreeLances$Town" prog_9_method_2_code 3 none outV (cT_begin)) (C : Cx E p s m args meth c "FreeLances$Town" prog_9_method_2_code 3 none) : ∀ (w0 : Nat) (i0 : Nat) (x1 : Int32) (x2 : Int32) (M : Mem) (res : Mem), mT_begin w0 i0 x1 x2 M = some res → Wm E p l e 1 s m args below meth c 3 0 [aR (3, w0, i0), aI x1, aI x2] [] M (outV res).1 (outV res).2 := by
  intro w0 i0 x1 x2 M res h
  refine run_at C A rfl hrtV (n := 400) ((eT_begin w0 i0 x1 x2 M).trans h) ?_
  intro t als st M hk; cases hk
def dT_begin {β : Type} : Den β := fun as M k => match as with
  | [.inr (.inr (.inl (3, w0, i0))), .inl x1, .inl x2] => (mT_begin w0 i0 x1 x2 M).bind fun q => k aU q
  | _ => none
theorem wT_begin {E : EV} (hsd : E.2.2.2 = 0) (l : Launch) (w0 : Nat) (i0 : Nat) (x1 : Int32) (x2 : Int32) (M : Mem) (q : Mem) (hq : mT_begin w0 i0 x1 x2 M = some q) : Con E l 1 yT_begin prog_9_method_2_code 3 none [aR (3, w0, i0), aI x1, aI x2] M (outV q).1 (outV q).2 := by
  refine con_of iT_begin (Nat.le_of_ble_eq_true rfl) ?_
  intro p e s m args below meth c C
  exact lT_begin (oT_begin hsd l) C w0 i0 x1 x2 M _ hq
theorem kT_begin {E : EV} (hsd : E.2.2.2 = 0) (l : Launch) {β : Type} : DenOK E l 1 yT_begin prog_9_method_2_code 3 none false (dT_begin (β := β)) := by
  intro as M k res h
  unfold dT_begin at h
  split at h
  · obtain ⟨q, hq, hk⟩ := Option.bind_eq_some_iff.mp h
    exact ⟨aU, q, hk, rfl, wT_begin hsd l _ _ _ _ M q hq⟩
  · cases h
theorem qT_begin {β : Type} : RecOK 3 (dT_begin (β := β)) := by
  intro as M k res h
  unfold dT_begin at h
  split at h
  · exact ⟨_, _, _, rfl⟩
  · cases h
/-! ===== FreeLances.town(II)I ===== -/
abbrev yF_town : MethodName := ⟨"FreeLances", "town", "(II)I"⟩
theorem iF_town : MI yF_town prog_1_method_2_code 3 (some .int) 2 := ⟨tw550, tw97, ⟨by decide, by decide⟩, by decide +kernel, by decide, by decide⟩
def mF_town (x1 : Int32) (x2 : Int32) (M : Mem) : Option (Int32 × Mem) :=
  (mF_within x1 0 99999 M).bind fun q1 =>
  if q1.1 = 0 then
    (mF_finding 1 q1.2).bind fun q2 =>
    some (q2.1, q2.2)
  else
    (mF_within x2 0 99999 q1.2).bind fun q3 =>
    if q3.1 = 0 then
      (mF_finding 1 q3.2).bind fun q4 =>
      some (q4.1, q4.2)
    else
      if (q3.2 1 0 0 2) < 8 then
        ixx (q3.2 1 0 0 2) 8 fun k5 =>
        (mT_begin 0 k5 x1 x2 q3.2).bind fun q6 =>
        let M7 : Mem := up q6 1 0 0 2 ((q6 1 0 0 2) + 1)
        some (q6 1 0 0 2, M7)
      else
        (mF_finding 4 q3.2).bind fun q8 =>
        some (q8.1, q8.2)
def cF_town : List (Ent (Int32 × Mem)) := [(false, 0, 1, sLdI 1),
  (false, 1, 1, sC 0),
  (false, 2, 2, sC 99999),
  (false, 4, 3, sInv 3 true dF_within),
  (false, 7, 3, sIfEq 20),
  (false, 10, 1, sLdI 2),
  (false, 11, 1, sC 0),
  (false, 12, 2, sC 99999),
  (false, 14, 3, sInv 3 true dF_within),
  (false, 17, 3, sIfNe 26),
  (false, 20, 1, sLdA 0),
  (false, 21, 1, sC 1),
  (false, 22, 3, sInv 2 true dF_finding),
  (false, 25, 1, sRetI),
  (false, 26, 1, sLdA 0),
  (false, 27, 3, sGet 0 (fun w i M => aR (1, 0, 0))),
  (false, 30, 3, sGet 1 (fun w i M => aI (M 1 w i 2))),
  (false, 33, 2, sC 8),
  (false, 35, 3, sCmpLt 44),
  (false, 38, 1, sLdA 0),
  (false, 39, 1, sC 4),
  (false, 40, 3, sInv 2 true dF_finding),
  (false, 43, 1, sRetI),
  (false, 44, 1, sLdA 0),
  (false, 45, 3, sGet 0 (fun w i M => aR (1, 0, 0))),
  (false, 48, 3, sGet 1 (fun w i M => aR (2, w, 0))),
  (false, 51, 1, sLdA 0),
  (false, 52, 3, sGet 0 (fun w i M => aR (1, 0, 0))),
  (false, 55, 3, sGet 1 (fun w i M => aI (M 1 w i 2))),
  (false, 58, 1, sAald 2 8 3),
  (false, 59, 1, sLdI 1),
  (false, 60, 1, sLdI 2),
  (false, 61, 3, sInv 3 false dT_begin),
  (false, 64, 1, sLdA 0),
  (false, 65, 3, sGet 0 (fun w i M => aR (1, 0, 0))),
  (false, 68, 1, sDup),
  (false, 69, 3, sGet 1 (fun w i M => aI (M 1 w i 2))),
  (false, 72, 1, sDupX1),
  (false, 73, 1, sC 1),
  (false, 74, 1, sBin (fun x y => x + y)),
  (false, 75, 3, sPut 1 2),
  (false, 78, 1, sRetI)]
theorem oF_town {E : EV} (hsd : E.2.2.2 = 0) (l : Launch) : AllOK E l 2 "FreeLances" prog_1_method_2_code 3 (some .int) outI (cF_town) := by
  refine ak (ok_iload_n (k := 1) rfl (by decide +kernel)) ?_
  refine ak (ok_iconst (n := 0) (by decide) (by decide +kernel)) ?_
  refine ak (ok_ldc tw551 (by decide +kernel)) ?_
  refine ak (ok_invS (kF_within hsd l) iF_within tw553 (by decide) tw552 (by decide +kernel)) ?_
  refine ak (ok_if_eq (off := 13) (by decide) (by decide +kernel)) ?_
  refine ak (ok_iload_n (k := 2) rfl (by decide +kernel)) ?_
  refine ak (ok_iconst (n := 0) (by decide) (by decide +kernel)) ?_
  refine ak (ok_ldc tw551 (by decide +kernel)) ?_
  refine ak (ok_invS (kF_within hsd l) iF_within tw553 (by decide) tw552 (by decide +kernel)) ?_
  refine ak (ok_if_ne (off := 9) (by decide) (by decide +kernel)) ?_
  refine ak (ok_aload_n (k := 0) rfl (by decide +kernel)) ?_
  refine ak (ok_iconst (n := 1) (by decide) (by decide +kernel)) ?_
  refine ak (ok_invV (r := 0) (kF_finding hsd l) qF_finding ck10 kd0 iF_finding tw557 tw0 (by decide) tw555 (by decide +kernel)) ?_
  refine ak (ok_ireturn rfl (by decide +kernel)) ?_
  refine ak (ok_aload_n (k := 0) rfl (by decide +kernel)) ?_
  refine ak (ok_get (k := 0) ck10 kd0 (by decide) (fun _ _ _ => rfl) (vf_0_0 hsd) tw522 (by decide +kernel)) ?_
  refine ak (ok_get (k := 2) ck9 kd1 (by decide) (fun _ _ _ => rfl) (fun _ _ _ _ _ => trivial) tw391 (by decide +kernel)) ?_
  refine ak (ok_bipush (n := 8) (by decide) (by decide +kernel)) ?_
  refine ak (ok_icmp_lt (off := 9) (by decide) (by decide +kernel)) ?_
  refine ak (ok_aload_n (k := 0) rfl (by decide +kernel)) ?_
  refine ak (ok_iconst (n := 4) (by decide) (by decide +kernel)) ?_
  refine ak (ok_invV (r := 0) (kF_finding hsd l) qF_finding ck10 kd0 iF_finding tw557 tw0 (by decide) tw555 (by decide +kernel)) ?_
  refine ak (ok_ireturn rfl (by decide +kernel)) ?_
  refine ak (ok_aload_n (k := 0) rfl (by decide +kernel)) ?_
  refine ak (ok_get (k := 0) ck10 kd0 (by decide) (fun _ _ _ => rfl) (vf_0_0 hsd) tw522 (by decide +kernel)) ?_
  refine ak (ok_get (k := 1) ck9 kd1 (by decide) (fun _ _ _ => rfl) (vf_1_1 hsd) tw389 (by decide +kernel)) ?_
  refine ak (ok_aload_n (k := 0) rfl (by decide +kernel)) ?_
  refine ak (ok_get (k := 0) ck10 kd0 (by decide) (fun _ _ _ => rfl) (vf_0_0 hsd) tw522 (by decide +kernel)) ?_
  refine ak (ok_get (k := 2) ck9 kd1 (by decide) (fun _ _ _ => rfl) (fun _ _ _ _ _ => trivial) tw391 (by decide +kernel)) ?_
  refine ak (ok_aald (t0 := 2) (C := RX7) kd2 (by decide) rfl (vr_2 hsd) (by decide +kernel)) ?_
  refine ak (ok_iload_n (k := 1) rfl (by decide +kernel)) ?_
  refine ak (ok_iload_n (k := 2) rfl (by decide +kernel)) ?_
  refine ak (ok_invV (r := 3) (kT_begin hsd l) qT_begin ck7 kd3 iT_begin tw561 tw562 (by decide) tw560 (by decide +kernel)) ?_
  refine ak (ok_aload_n (k := 0) rfl (by decide +kernel)) ?_
  refine ak (ok_get (k := 0) ck10 kd0 (by decide) (fun _ _ _ => rfl) (vf_0_0 hsd) tw522 (by decide +kernel)) ?_
  refine ak (ok_dup (by decide +kernel)) ?_
  refine ak (ok_get (k := 2) ck9 kd1 (by decide) (fun _ _ _ => rfl) (fun _ _ _ _ _ => trivial) tw391 (by decide +kernel)) ?_
  refine ak (ok_dup_x1 (by decide +kernel)) ?_
  refine ak (ok_iconst (n := 1) (by decide) (by decide +kernel)) ?_
  refine ak (ok_iadd (by decide +kernel)) ?_
  refine ak (ok_put (k := 2) ck9 kd1 (by decide) (fun _ _ _ => rfl) rfl rfl (by decide) tw391 (by decide +kernel)) ?_
  refine ak (ok_ireturn rfl (by decide +kernel)) ?_
  exact trivial
set_option maxRecDepth 100000 in
theorem eF_town (x1 : Int32) (x2 : Int32) (M : Mem) : run (cF_town) (fun _ _ _ _ => none) rtI 400 (seek (cF_town) 0) [aR (0, 0, 0), aI x1, aI x2] [] M = mF_town x1 x2 M := rfl
theorem lF_town {E : EV} {l : Launch} {p : Program} {e : Env} {s : State} {m : MethodId} {args : Array Value} {below : List Frame} {meth : Method} {c : Code} (A : AllOK E l 2 "FreeLances" prog_1_method_2_code 3 (some .int) outI (cF_town)) (C : Cx E p s m args meth c "FreeLances" prog_1_method_2_code 3 (some .int)) : ∀ (x1 : Int32) (x2 : Int32) (M : Mem) (res : (Int32 × Mem)), mF_town x1 x2 M = some res → Wm E p l e 2 s m args below meth c 3 0 [aR (0, 0, 0), aI x1, aI x2] [] M (outI res).1 (outI res).2 := by
  intro x1 x2 M res h
  refine run_at C A rfl hrtI (n := 400) ((eF_town x1 x2 M).trans h) ?_
  intro t als st M hk; cases hk
def dF_town {β : Type} : Den β := fun as M k => match as with
  | [.inr (.inr (.inl (0, 0, 0))), .inl x1, .inl x2] => (mF_town x1 x2 M).bind fun q => k (aI q.1) q.2
  | _ => none
theorem wF_town {E : EV} (hsd : E.2.2.2 = 0) (l : Launch) (x1 : Int32) (x2 : Int32) (M : Mem) (q : (Int32 × Mem)) (hq : mF_town x1 x2 M = some q) : Con E l 2 yF_town prog_1_method_2_code 3 (some .int) [aR (0, 0, 0), aI x1, aI x2] M (outI q).1 (outI q).2 := by
  refine con_of iF_town (Nat.le_of_ble_eq_true rfl) ?_
  intro p e s m args below meth c C
  exact lF_town (oF_town hsd l) C x1 x2 M _ hq
theorem kF_town {E : EV} (hsd : E.2.2.2 = 0) (l : Launch) {β : Type} : DenOK E l 2 yF_town prog_1_method_2_code 3 (some .int) true (dF_town (β := β)) := by
  intro as M k res h
  unfold dF_town at h
  split at h
  · obtain ⟨q, hq, hk⟩ := Option.bind_eq_some_iff.mp h
    exact ⟨aI q.1, q.2, hk, rfl, wF_town hsd l _ _ M q hq⟩
  · cases h
theorem qF_town {β : Type} : RecOK 0 (dF_town (β := β)) := by
  intro as M k res h
  unfold dF_town at h
  split at h
  · exact ⟨_, _, _, rfl⟩
  · cases h
/-! ===== FreeLances.isTown(I)Z ===== -/
abbrev yF_isTown : MethodName := ⟨"FreeLances", "isTown", "(I)Z"⟩
theorem iF_isTown : MI yF_isTown prog_1_method_63_code 2 (some .boolean) 1 := ⟨tw571, tw97, ⟨by decide, by decide⟩, by decide +kernel, by decide, by decide⟩
def mF_isTown (x1 : Int32) (M : Mem) : Option (Int32 × Mem) :=
  (mF_within x1 0 ((M 1 0 0 2) - 1) M).bind fun q1 =>
  if q1.1 = 0 ∨ q1.1 = 1 then
    some (q1.1, q1.2)
  else
    none
def cF_isTown : List (Ent (Int32 × Mem)) := [(false, 0, 1, sLdI 1),
  (false, 1, 1, sC 0),
  (false, 2, 1, sLdA 0),
  (false, 3, 3, sGet 0 (fun w i M => aR (1, 0, 0))),
  (false, 6, 3, sGet 1 (fun w i M => aI (M 1 w i 2))),
  (false, 9, 1, sC 1),
  (false, 10, 1, sBin (fun x y => x - y)),
  (false, 11, 3, sInv 3 true dF_within),
  (false, 14, 1, sRetZ)]
theorem oF_isTown {E : EV} (hsd : E.2.2.2 = 0) (l : Launch) : AllOK E l 2 "FreeLances" prog_1_method_63_code 2 (some .boolean) outI (cF_isTown) := by
  refine ak (ok_iload_n (k := 1) rfl (by decide +kernel)) ?_
  refine ak (ok_iconst (n := 0) (by decide) (by decide +kernel)) ?_
  refine ak (ok_aload_n (k := 0) rfl (by decide +kernel)) ?_
  refine ak (ok_get (k := 0) ck10 kd0 (by decide) (fun _ _ _ => rfl) (vf_0_0 hsd) tw522 (by decide +kernel)) ?_
  refine ak (ok_get (k := 2) ck9 kd1 (by decide) (fun _ _ _ => rfl) (fun _ _ _ _ _ => trivial) tw391 (by decide +kernel)) ?_
  refine ak (ok_iconst (n := 1) (by decide) (by decide +kernel)) ?_
  refine ak (ok_isub (by decide +kernel)) ?_
  refine ak (ok_invS (kF_within hsd l) iF_within tw553 (by decide) tw552 (by decide +kernel)) ?_
  refine ak (ok_zreturn rfl (by decide +kernel)) ?_
  exact trivial
set_option maxRecDepth 100000 in
theorem eF_isTown (x1 : Int32) (M : Mem) : run (cF_isTown) (fun _ _ _ _ => none) rtI 400 (seek (cF_isTown) 0) [aR (0, 0, 0), aI x1] [] M = mF_isTown x1 M := rfl
theorem lF_isTown {E : EV} {l : Launch} {p : Program} {e : Env} {s : State} {m : MethodId} {args : Array Value} {below : List Frame} {meth : Method} {c : Code} (A : AllOK E l 2 "FreeLances" prog_1_method_63_code 2 (some .boolean) outI (cF_isTown)) (C : Cx E p s m args meth c "FreeLances" prog_1_method_63_code 2 (some .boolean)) : ∀ (x1 : Int32) (M : Mem) (res : (Int32 × Mem)), mF_isTown x1 M = some res → Wm E p l e 2 s m args below meth c 2 0 [aR (0, 0, 0), aI x1] [] M (outI res).1 (outI res).2 := by
  intro x1 M res h
  refine run_at C A rfl hrtI (n := 400) ((eF_isTown x1 M).trans h) ?_
  intro t als st M hk; cases hk
def dF_isTown {β : Type} : Den β := fun as M k => match as with
  | [.inr (.inr (.inl (0, 0, 0))), .inl x1] => (mF_isTown x1 M).bind fun q => k (aI q.1) q.2
  | _ => none
theorem wF_isTown {E : EV} (hsd : E.2.2.2 = 0) (l : Launch) (x1 : Int32) (M : Mem) (q : (Int32 × Mem)) (hq : mF_isTown x1 M = some q) : Con E l 2 yF_isTown prog_1_method_63_code 2 (some .boolean) [aR (0, 0, 0), aI x1] M (outI q).1 (outI q).2 := by
  refine con_of iF_isTown (Nat.le_of_ble_eq_true rfl) ?_
  intro p e s m args below meth c C
  exact lF_isTown (oF_isTown hsd l) C x1 M _ hq
theorem kF_isTown {E : EV} (hsd : E.2.2.2 = 0) (l : Launch) {β : Type} : DenOK E l 2 yF_isTown prog_1_method_63_code 2 (some .boolean) true (dF_isTown (β := β)) := by
  intro as M k res h
  unfold dF_isTown at h
  split at h
  · obtain ⟨q, hq, hk⟩ := Option.bind_eq_some_iff.mp h
    exact ⟨aI q.1, q.2, hk, rfl, wF_isTown hsd l _ M q hq⟩
  · cases h
theorem qF_isTown {β : Type} : RecOK 0 (dF_isTown (β := β)) := by
  intro as M k res h
  unfold dF_isTown at h
  split at h
  · exact ⟨_, _, _, rfl⟩
  · cases h
/-! ===== FreeLances$World.way(II)I ===== -/
abbrev yW_way : MethodName := ⟨"FreeLances$World", "way", "(II)I"⟩
theorem iW_way : MI yW_way prog_11_method_3_code 3 (some .int) 2 := ⟨tw579, tw98, ⟨by decide, by decide⟩, by decide +kernel, by decide, by decide⟩
def mW_way (w0 : Nat) (x1 : Int32) (x2 : Int32) (M : Mem) : Option (Int32 × Mem) :=
  ixx ((x1 * 8) + x2) 64 fun k1 =>
  some (M 4 w0 0 k1, M)
def cW_way : List (Ent (Int32 × Mem)) := [(false, 0, 1, sLdA 0),
  (false, 1, 3, sGet 1 (fun w i M => aR (4, w, 0))),
  (false, 4, 1, sLdI 1),
  (false, 5, 2, sC 8),
  (false, 7, 1, sBin (fun x y => x * y)),
  (false, 8, 1, sLdI 2),
  (false, 9, 1, sBin (fun x y => x + y)),
  (false, 10, 1, sIald 4 64),
  (false, 11, 1, sRetI)]
theorem oW_way {E : EV} (hsd : E.2.2.2 = 0) (l : Launch) : AllOK E l 1 "FreeLances$World" prog_11_method_3_code 3 (some .int) outI (cW_way) := by
  refine ak (ok_aload_n (k := 0) rfl (by decide +kernel)) ?_
  refine ak (ok_get (k := 4) ck9 kd1 (by decide) (fun _ _ _ => rfl) (vf_1_4 hsd) tw395 (by decide +kernel)) ?_
  refine ak (ok_iload_n (k := 1) rfl (by decide +kernel)) ?_
  refine ak (ok_bipush (n := 8) (by decide) (by decide +kernel)) ?_
  refine ak (ok_imul (by decide +kernel)) ?_
  refine ak (ok_iload_n (k := 2) rfl (by decide +kernel)) ?_
  refine ak (ok_iadd (by decide +kernel)) ?_
  refine ak (ok_iald kd4 (by decide) (by decide +kernel)) ?_
  refine ak (ok_ireturn rfl (by decide +kernel)) ?_
  exact trivial
set_option maxRecDepth 100000 in
theorem eW_way (w0 : Nat) (x1 : Int32) (x2 : Int32) (M : Mem) : run (cW_way) (fun _ _ _ _ => none) rtI 400 (seek (cW_way) 0) [aR (1, w0, 0), aI x1, aI x2] [] M = mW_way w0 x1 x2 M := rfl
theorem lW_way {E : EV} {l : Launch} {p : Program} {e : Env} {s : State} {m : MethodId} {args : Array Value} {below : List Frame} {meth : Method} {c : Code} (A : AllOK E l 1 "FreeLances$World" prog_11_method_3_code 3 (some .int) outI (cW_way)) (C : Cx E p s m args meth c "FreeLances$World" prog_11_method_3_code 3 (some .int)) : ∀ (w0 : Nat) (x1 : Int32) (x2 : Int32) (M : Mem) (res : (Int32 × Mem)), mW_way w0 x1 x2 M = some res → Wm E p l e 1 s m args below meth c 3 0 [aR (1, w0, 0), aI x1, aI x2] [] M (outI res).1 (outI res).2 := by
  intro w0 x1 x2 M res h
  refine run_at C A rfl hrtI (n := 400) ((eW_way w0 x1 x2 M).trans h) ?_
  intro t als st M hk; cases hk
def dW_way {β : Type} : Den β := fun as M k => match as with
  | [.inr (.inr (.inl (1, w0, 0))), .inl x1, .inl x2] => (mW_way w0 x1 x2 M).bind fun q => k (aI q.1) q.2
  | _ => none
theorem wW_way {E : EV} (hsd : E.2.2.2 = 0) (l : Launch) (w0 : Nat) (x1 : Int32) (x2 : Int32) (M : Mem) (q : (Int32 × Mem)) (hq : mW_way w0 x1 x2 M = some q) : Con E l 1 yW_way prog_11_method_3_code 3 (some .int) [aR (1, w0, 0), aI x1, aI x2] M (outI q).1 (outI q).2 := by
  refine con_of iW_way (Nat.le_of_ble_eq_true rfl) ?_
  intro p e s m args below meth c C
  exact lW_way (oW_way hsd l) C w0 x1 x2 M _ hq
theorem kW_way {E : EV} (hsd : E.2.2.2 = 0) (l : Launch) {β : Type} : DenOK E l 1 yW_way prog_11_method_3_code 3 (some .int) true (dW_way (β := β)) := by
  intro as M k res h
  unfold dW_way at h
  split at h
  · obtain ⟨q, hq, hk⟩ := Option.bind_eq_some_iff.mp h
    exact ⟨aI q.1, q.2, hk, rfl, wW_way hsd l _ _ _ M q hq⟩
  · cases h
theorem qW_way {β : Type} : RecOK 1 (dW_way (β := β)) := by
  intro as M k res h
  unfold dW_way at h
  split at h
  · exact ⟨_, _, _, rfl⟩
  · cases h
/-! ===== FreeLances$World.join(III)V ===== -/
abbrev yW_join : MethodName := ⟨"FreeLances$World", "join", "(III)V"⟩
theorem iW_join : MI yW_join prog_11_method_4_code 9 none 3 := ⟨tw575, tw98, ⟨by decide, by decide⟩, by decide +kernel, by decide, by decide⟩
def mW_join_15b (j3 : Nat → Int32 → Int32 → Int32 → Int32 → Mem → Option Mem) (j15 : Nat → Int32 → Int32 → Int32 → Int32 → Int32 → Mem → Option Mem) (w0 : Nat) (x1 : Int32) (x2 : Int32) (x3 : Int32) (x4 : Int32) (x5 : Int32) (M : Mem) : Option Mem :=
  if x5 < (M 1 w0 0 2) then
    (mW_way w0 x4 x1 M).bind fun q1 =>
    (mW_way w0 x2 x5 q1.2).bind fun q2 =>
    (mW_way w0 x4 x2 q2.2).bind fun q3 =>
    (mW_way w0 x1 x5 q3.2).bind fun q4 =>
    ixx ((x4 * 8) + x5) 64 fun k5 =>
    let t6 : Int32 := if ((q3.1 + x3) + q4.1) < ((q1.1 + x3) + q2.1) then ((q3.1 + x3) + q4.1) else ((q1.1 + x3) + q2.1)
    let t7 : Int32 := if t6 < (q4.2 4 w0 0 k5) then t6 else (q4.2 4 w0 0 k5)
    ixx ((x4 * 8) + x5) 64 fun k9 =>
    let M8 : Mem := up q4.2 4 w0 0 k9 t7
    j15 w0 x1 x2 x3 x4 (x5 + 1) M8
  else
    j3 w0 x1 x2 x3 (x4 + 1) M
def mW_join_15 (r3 : Nat → Int32 → Int32 → Int32 → Int32 → Mem → Option Mem) : Nat → Nat → Int32 → Int32 → Int32 → Int32 → Int32 → Mem → Option Mem
  | 0, _, _, _, _, _, _, _ => none
  | n + 1, w0, x1, x2, x3, x4, x5, M => mW_join_15b r3 (mW_join_15 r3 n) w0 x1 x2 x3 x4 x5 M
def mW_join_3b (j15 : Nat → Int32 → Int32 → Int32 → Int32 → Int32 → Mem → Option Mem) (w0 : Nat) (x1 : Int32) (x2 : Int32) (x3 : Int32) (x4 : Int32) (M : Mem) : Option Mem :=
  if x4 < (M 1 w0 0 2) then
    j15 w0 x1 x2 x3 x4 0 M
  else
    some M
def mW_join_3 : Nat → Nat → Int32 → Int32 → Int32 → Int32 → Mem → Option Mem
  | 0, _, _, _, _, _, _ => none
  | n + 1, w0, x1, x2, x3, x4, M => mW_join_3b (mW_join_15 (mW_join_3 n) fuel) w0 x1 x2 x3 x4 M
def mW_joinb (j3 : Nat → Int32 → Int32 → Int32 → Int32 → Mem → Option Mem) (w0 : Nat) (x1 : Int32) (x2 : Int32) (x3 : Int32) (M : Mem) : Option Mem :=
  j3 w0 x1 x2 x3 0 M
def mW_join (w0 : Nat) (x1 : Int32) (x2 : Int32) (x3 : Int32) (M : Mem) : Option Mem := mW_joinb (mW_join_3 fuel) w0 x1 x2 x3 M
def cW_join : List (Ent Mem) := [(false, 0, 1, sC 0),
  (false, 1, 2, sStI 4),
  (true, 3, 2, sLdI 4),
  (false, 5, 1, sLdA 0),
  (false, 6, 3, sGet 1 (fun w i M => aI (M 1 w i 2))),
  (false, 9, 3, sCmpGe 108),
  (false, 12, 1, sC 0),
  (false, 13, 2, sStI 5),
  (true, 15, 2, sLdI 5),
  (false, 17, 1, sLdA 0),
  (false, 18, 3, sGet 1 (fun w i M => aI (M 1 w i 2))),
  (false, 21, 3, sCmpGe 102),
  (false, 24, 1, sLdA 0),
  (false, 25, 2, sLdI 4),
  (false, 27, 1, sLdI 1),
  (false, 28, 3, sInv 3 true dW_way),
  (false, 31, 1, sLdI 3),
  (false, 32, 1, sBin (fun x y => x + y)),
  (false, 33, 1, sLdA 0),
  (false, 34, 1, sLdI 2),
  (false, 35, 2, sLdI 5),
  (false, 37, 3, sInv 3 true dW_way),
  (false, 40, 1, sBin (fun x y => x + y)),
  (false, 41, 2, sStI 6),
  (false, 43, 1, sLdA 0),
  (false, 44, 2, sLdI 4),
  (false, 46, 1, sLdI 2),
  (false, 47, 3, sInv 3 true dW_way),
  (false, 50, 1, sLdI 3),
  (false, 51, 1, sBin (fun x y => x + y)),
  (false, 52, 1, sLdA 0),
  (false, 53, 1, sLdI 1),
  (false, 54, 2, sLdI 5),
  (false, 56, 3, sInv 3 true dW_way),
  (false, 59, 1, sBin (fun x y => x + y)),
  (false, 60, 2, sStI 7),
  (false, 62, 2, sLdI 4),
  (false, 64, 2, sC 8),
  (false, 66, 1, sBin (fun x y => x * y)),
  (false, 67, 2, sLdI 5),
  (false, 69, 1, sBin (fun x y => x + y)),
  (false, 70, 2, sStI 8),
  (false, 72, 1, sLdA 0),
  (false, 73, 3, sGet 1 (fun w i M => aR (4, w, 0))),
  (false, 76, 2, sLdI 8),
  (false, 78, 1, sLdA 0),
  (false, 79, 3, sGet 1 (fun w i M => aR (4, w, 0))),
  (false, 82, 2, sLdI 8),
  (false, 84, 1, sIald 4 64),
  (false, 85, 2, sLdI 6),
  (false, 87, 2, sLdI 7),
  (false, 89, 3, sMin),
  (false, 92, 3, sMin),
  (false, 95, 1, sIast 4 64),
  (false, 96, 3, sInc 5 1),
  (false, 99, 3, sGoto 15),
  (false, 102, 3, sInc 4 1),
  (false, 105, 3, sGoto 3),
  (false, 108, 1, sRetV)]
theorem oW_join {E : EV} (hsd : E.2.2.2 = 0) (l : Launch) : AllOK E l 2 "FreeLances$World" prog_11_method_4_code 9 none outV (cW_join) := by
  refine ak (ok_iconst (n := 0) (by decide) (by decide +kernel)) ?_
  refine ak (ok_istore (by decide) (by decide +kernel)) ?_
  refine ak (ok_iload (by decide +kernel)) ?_
  refine ak (ok_aload_n (k := 0) rfl (by decide +kernel)) ?_
  refine ak (ok_get (k := 2) ck9 kd1 (by decide) (fun _ _ _ => rfl) (fun _ _ _ _ _ => trivial) tw390 (by decide +kernel)) ?_
  refine ak (ok_icmp_ge (off := 99) (by decide) (by decide +kernel)) ?_
  refine ak (ok_iconst (n := 0) (by decide) (by decide +kernel)) ?_
  refine ak (ok_istore (by decide) (by decide +kernel)) ?_
  refine ak (ok_iload (by decide +kernel)) ?_
  refine ak (ok_aload_n (k := 0) rfl (by decide +kernel)) ?_
  refine ak (ok_get (k := 2) ck9 kd1 (by decide) (fun _ _ _ => rfl) (fun _ _ _ _ _ => trivial) tw390 (by decide +kernel)) ?_
  refine ak (ok_icmp_ge (off := 81) (by decide) (by decide +kernel)) ?_
  refine ak (ok_aload_n (k := 0) rfl (by decide +kernel)) ?_
  refine ak (ok_iload (by decide +kernel)) ?_
  refine ak (ok_iload_n (k := 1) rfl (by decide +kernel)) ?_
  refine ak (ok_invV (r := 1) (kW_way hsd l) qW_way ck9 kd1 iW_way tw577 tw578 (by decide) tw576 (by decide +kernel)) ?_
  refine ak (ok_iload_n (k := 3) rfl (by decide +kernel)) ?_
  refine ak (ok_iadd (by decide +kernel)) ?_
  refine ak (ok_aload_n (k := 0) rfl (by decide +kernel)) ?_
  refine ak (ok_iload_n (k := 2) rfl (by decide +kernel)) ?_
  refine ak (ok_iload (by decide +kernel)) ?_
  refine ak (ok_invV (r := 1) (kW_way hsd l) qW_way ck9 kd1 iW_way tw577 tw578 (by decide) tw576 (by decide +kernel)) ?_
  refine ak (ok_iadd (by decide +kernel)) ?_
  refine ak (ok_istore (by decide) (by decide +kernel)) ?_
  refine ak (ok_aload_n (k := 0) rfl (by decide +kernel)) ?_
  refine ak (ok_iload (by decide +kernel)) ?_
  refine ak (ok_iload_n (k := 2) rfl (by decide +kernel)) ?_
  refine ak (ok_invV (r := 1) (kW_way hsd l) qW_way ck9 kd1 iW_way tw577 tw578 (by decide) tw576 (by decide +kernel)) ?_
  refine ak (ok_iload_n (k := 3) rfl (by decide +kernel)) ?_
  refine ak (ok_iadd (by decide +kernel)) ?_
  refine ak (ok_aload_n (k := 0) rfl (by decide +kernel)) ?_
  refine ak (ok_iload_n (k := 1) rfl (by decide +kernel)) ?_
  refine ak (ok_iload (by decide +kernel)) ?_
  refine ak (ok_invV (r := 1) (kW_way hsd l) qW_way ck9 kd1 iW_way tw577 tw578 (by decide) tw576 (by decide +kernel)) ?_
  refine ak (ok_iadd (by decide +kernel)) ?_
  refine ak (ok_istore (by decide) (by decide +kernel)) ?_
  refine ak (ok_iload (by decide +kernel)) ?_
  refine ak (ok_bipush (n := 8) (by decide) (by decide +kernel)) ?_
  refine ak (ok_imul (by decide +kernel)) ?_
  refine ak (ok_iload (by decide +kernel)) ?_
  refine ak (ok_iadd (by decide +kernel)) ?_
  refine ak (ok_istore (by decide) (by decide +kernel)) ?_
  refine ak (ok_aload_n (k := 0) rfl (by decide +kernel)) ?_
  refine ak (ok_get (k := 4) ck9 kd1 (by decide) (fun _ _ _ => rfl) (vf_1_4 hsd) tw395 (by decide +kernel)) ?_
  refine ak (ok_iload (by decide +kernel)) ?_
  refine ak (ok_aload_n (k := 0) rfl (by decide +kernel)) ?_
  refine ak (ok_get (k := 4) ck9 kd1 (by decide) (fun _ _ _ => rfl) (vf_1_4 hsd) tw395 (by decide +kernel)) ?_
  refine ak (ok_iload (by decide +kernel)) ?_
  refine ak (ok_iald kd4 (by decide) (by decide +kernel)) ?_
  refine ak (ok_iload (by decide +kernel)) ?_
  refine ak (ok_iload (by decide +kernel)) ?_
  refine ak (ok_mmin (by decide) tw580 tw581 tw109 twMmin (by decide +kernel)) ?_
  refine ak (ok_mmin (by decide) tw580 tw581 tw109 twMmin (by decide +kernel)) ?_
  refine ak (ok_iast kd4 (by decide) (by decide) (by decide +kernel)) ?_
  refine ak (ok_iinc (n := 1) (by decide) (by decide) (by decide +kernel)) ?_
  refine ak (ok_goto (off := (-84)) (by decide) (by decide +kernel)) ?_
  refine ak (ok_iinc (n := 1) (by decide) (by decide) (by decide +kernel)) ?_
  refine ak (ok_goto (off := (-102)) (by decide) (by decide +kernel)) ?_
  refine ak (ok_return rfl (by decide +kernel)) ?_
  exact trivial
def KW_join_15 (j3 : Nat → Int32 → Int32 → Int32 → Int32 → Mem → Option Mem) (j15 : Nat → Int32 → Int32 → Int32 → Int32 → Int32 → Mem → Option Mem) : Jm Mem := fun t als st M => match t, als, st with
  | 3, [.inr (.inr (.inl (1, w0, 0))), .inl x1, .inl x2, .inl x3, .inl x4, _, _, _, _], [] => j3 w0 x1 x2 x3 x4 M
  | 15, [.inr (.inr (.inl (1, w0, 0))), .inl x1, .inl x2, .inl x3, .inl x4, .inl x5, _, _, _], [] => j15 w0 x1 x2 x3 x4 x5 M
  | _, _, _ => none
set_option maxRecDepth 100000 in
theorem eW_join_15 (j3 : Nat → Int32 → Int32 → Int32 → Int32 → Mem → Option Mem) (j15 : Nat → Int32 → Int32 → Int32 → Int32 → Int32 → Mem → Option Mem) (w0 : Nat) (x1 : Int32) (x2 : Int32) (x3 : Int32) (x4 : Int32) (x5 : Int32) (M : Mem) (u6 u7 u8 : AV) : run (cW_join) (KW_join_15 j3 j15) rtV 400 (seek (cW_join) 15) [aR (1, w0, 0), aI x1, aI x2, aI x3, aI x4, aI x5, u6, u7, u8] [] M = mW_join_15b j3 j15 w0 x1 x2 x3 x4 x5 M := rfl
theorem lW_join_15 {E : EV} {l : Launch} {p : Program} {e : Env} {s : State} {m : MethodId} {args : Array Value} {below : List Frame} {meth : Method} {c : Code} (A : AllOK E l 2 "FreeLances$World" prog_11_method_4_code 9 none outV (cW_join)) (C : Cx E p s m args meth c "FreeLances$World" prog_11_method_4_code 9 none) {r3 : Nat → Int32 → Int32 → Int32 → Int32 → Mem → Option Mem} (H3 : ∀ (w0 : Nat) (x1 : Int32) (x2 : Int32) (x3 : Int32) (x4 : Int32) (M : Mem) (res : Mem), r3 w0 x1 x2 x3 x4 M = some res → ∀ (u5 u6 u7 u8 : AV), Wm E p l e 2 s m args below meth c 9 3 [aR (1, w0, 0), aI x1, aI x2, aI x3, aI x4, u5, u6, u7, u8] [] M (outV res).1 (outV res).2) : ∀ (n : Nat), ∀ (w0 : Nat) (x1 : Int32) (x2 : Int32) (x3 : Int32) (x4 : Int32) (x5 : Int32) (M : Mem) (res : Mem), mW_join_15 r3 n w0 x1 x2 x3 x4 x5 M = some res → ∀ (u6 u7 u8 : AV), Wm E p l e 2 s m args below meth c 9 15 [aR (1, w0, 0), aI x1, aI x2, aI x3, aI x4, aI x5, u6, u7, u8] [] M (outV res).1 (outV res).2 := by
  intro n
  induction n with
  | zero => intro _ _ _ _ _ _ M res h; cases h
  | succ n ih =>
    intro w0 x1 x2 x3 x4 x5 M res h u6 u7 u8
    refine run_at C A rfl hrtV (n := 400) ((eW_join_15 r3 (mW_join_15 r3 n) w0 x1 x2 x3 x4 x5 M u6 u7 u8).trans h) ?_
    intro t als st M hk
    unfold KW_join_15 at hk
    split at hk
    · exact H3 _ _ _ _ _ _ _ hk _ _ _ _
    · exact ih _ _ _ _ _ _ _ _ hk _ _ _
    · cases hk
def KW_join_3 (j15 : Nat → Int32 → Int32 → Int32 → Int32 → Int32 → Mem → Option Mem) : Jm Mem := fun t als st M => match t, als, st with
  | 15, [.inr (.inr (.inl (1, w0, 0))), .inl x1, .inl x2, .inl x3, .inl x4, .inl x5, _, _, _], [] => j15 w0 x1 x2 x3 x4 x5 M
  | _, _, _ => none
set_option maxRecDepth 100000 in
theorem eW_join_3 (j15 : Nat → Int32 → Int32 → Int32 → Int32 → Int32 → Mem → Option Mem) (w0 : Nat) (x1 : Int32) (x2 : Int32) (x3 : Int32) (x4 : Int32) (M : Mem) (u5 u6 u7 u8 : AV) : run (cW_join) (KW_join_3 j15) rtV 400 (seek (cW_join) 3) [aR (1, w0, 0), aI x1, aI x2, aI x3, aI x4, u5, u6, u7, u8] [] M = mW_join_3b j15 w0 x1 x2 x3 x4 M := rfl
theorem lW_join_3 {E : EV} {l : Launch} {p : Program} {e : Env} {s : State} {m : MethodId} {args : Array Value} {below : List Frame} {meth : Method} {c : Code} (A : AllOK E l 2 "FreeLances$World" prog_11_method_4_code 9 none outV (cW_join)) (C : Cx E p s m args meth c "FreeLances$World" prog_11_method_4_code 9 none) : ∀ (n : Nat), ∀ (w0 : Nat) (x1 : Int32) (x2 : Int32) (x3 : Int32) (x4 : Int32) (M : Mem) (res : Mem), mW_join_3 n w0 x1 x2 x3 x4 M = some res → ∀ (u5 u6 u7 u8 : AV), Wm E p l e 2 s m args below meth c 9 3 [aR (1, w0, 0), aI x1, aI x2, aI x3, aI x4, u5, u6, u7, u8] [] M (outV res).1 (outV res).2 := by
  intro n
  induction n with
  | zero => intro _ _ _ _ _ M res h; cases h
  | succ n ih =>
    intro w0 x1 x2 x3 x4 M res h u5 u6 u7 u8
    refine run_at C A rfl hrtV (n := 400) ((eW_join_3 (mW_join_15 (mW_join_3 n) fuel) w0 x1 x2 x3 x4 M u5 u6 u7 u8).trans h) ?_
    intro t als st M hk
    unfold KW_join_3 at hk
    split at hk
    · exact lW_join_15 A C ih _ _ _ _ _ _ _ _ _ hk _ _ _
    · cases hk
def KW_join (j3 : Nat → Int32 → Int32 → Int32 → Int32 → Mem → Option Mem) : Jm Mem := fun t als st M => match t, als, st with
  | 3, [.inr (.inr (.inl (1, w0, 0))), .inl x1, .inl x2, .inl x3, .inl x4, _, _, _, _], [] => j3 w0 x1 x2 x3 x4 M
  | _, _, _ => none
set_option maxRecDepth 100000 in
theorem eW_join (j3 : Nat → Int32 → Int32 → Int32 → Int32 → Mem → Option Mem) (w0 : Nat) (x1 : Int32) (x2 : Int32) (x3 : Int32) (M : Mem) : run (cW_join) (KW_join j3) rtV 400 (seek (cW_join) 0) [aR (1, w0, 0), aI x1, aI x2, aI x3, aU, aU, aU, aU, aU] [] M = mW_joinb j3 w0 x1 x2 x3 M := rfl
theorem lW_join {E : EV} {l : Launch} {p : Program} {e : Env} {s : State} {m : MethodId} {args : Array Value} {below : List Frame} {meth : Method} {c : Code} (A : AllOK E l 2 "FreeLances$World" prog_11_method_4_code 9 none outV (cW_join)) (C : Cx E p s m args meth c "FreeLances$World" prog_11_method_4_code 9 none) : ∀ (w0 : Nat) (x1 : Int32) (x2 : Int32) (x3 : Int32) (M : Mem) (res : Mem), mW_join w0 x1 x2 x3 M = some res → Wm E p l e 2 s m args below meth c 9 0 [aR (1, w0, 0), aI x1, aI x2, aI x3, aU, aU, aU, aU, aU] [] M (outV res).1 (outV res).2 := by
  intro w0 x1 x2 x3 M res h
  refine run_at C A rfl hrtV (n := 400) ((eW_join (mW_join_3 fuel) w0 x1 x2 x3 M).trans h) ?_
  intro t als st M hk
  unfold KW_join at hk
  split at hk
  · exact lW_join_3 A C _ _ _ _ _ _ _ _ hk _ _ _ _
  · cases hk
def dW_join {β : Type} : Den β := fun as M k => match as with
  | [.inr (.inr (.inl (1, w0, 0))), .inl x1, .inl x2, .inl x3] => (mW_join w0 x1 x2 x3 M).bind fun q => k aU q
  | _ => none
theorem wW_join {E : EV} (hsd : E.2.2.2 = 0) (l : Launch) (w0 : Nat) (x1 : Int32) (x2 : Int32) (x3 : Int32) (M : Mem) (q : Mem) (hq : mW_join w0 x1 x2 x3 M = some q) : Con E l 2 yW_join prog_11_method_4_code 9 none [aR (1, w0, 0), aI x1, aI x2, aI x3] M (outV q).1 (outV q).2 := by
  refine con_of iW_join (Nat.le_of_ble_eq_true rfl) ?_
  intro p e s m args below meth c C
  exact lW_join (oW_join hsd l) C w0 x1 x2 x3 M _ hq
theorem kW_join {E : EV} (hsd : E.2.2.2 = 0) (l : Launch) {β : Type} : DenOK E l 2 yW_join prog_11_method_4_code 9 none false (dW_join (β := β)) := by
  intro as M k res h
  unfold dW_join at h
  split at h
  · obtain ⟨q, hq, hk⟩ := Option.bind_eq_some_iff.mp h
    exact ⟨aU, q, hk, rfl, wW_join hsd l _ _ _ _ M q hq⟩
  · cases h
theorem qW_join {β : Type} : RecOK 1 (dW_join (β := β)) := by
  intro as M k res h
  unfold dW_join at h
  split at h
  · exact ⟨_, _, _, rfl⟩
  · cases h
/-! ===== FreeLances$World.lyingIn(I)I ===== -/
abbrev yW_lyingIn : MethodName := ⟨"FreeLances$World", "lyingIn", "(I)I"⟩
theorem iW_lyingIn : MI yW_lyingIn prog_11_method_5_code 4 (some .int) 1 := ⟨tw596, tw98, ⟨by decide, by decide⟩, by decide +kernel, by decide, by decide⟩
def mW_lyingIn_4b (j4 : Nat → Int32 → Int32 → Int32 → Mem → Option (Int32 × Mem)) (w0 : Nat) (x1 : Int32) (x2 : Int32) (x3 : Int32) (M : Mem) : Option (Int32 × Mem) :=
  if x3 < (M 1 w0 0 6) then
    ixx x3 5 fun k1 =>
    if (M 6 w0 k1 3) = x1 then
      j4 w0 x1 (x2 ||| (1 <<< (x3 &&& 31))) (x3 + 1) M
    else
      j4 w0 x1 x2 (x3 + 1) M
  else
    some (x2, M)
def mW_lyingIn_4 : Nat → Nat → Int32 → Int32 → Int32 → Mem → Option (Int32 × Mem)
  | 0, _, _, _, _, _ => none
  | n + 1, w0, x1, x2, x3, M => mW_lyingIn_4b (mW_lyingIn_4 n) w0 x1 x2 x3 M
def mW_lyingInb (j4 : Nat → Int32 → Int32 → Int32 → Mem → Option (Int32 × Mem)) (w0 : Nat) (x1 : Int32) (M : Mem) : Option (Int32 × Mem) :=
  j4 w0 x1 0 0 M
def mW_lyingIn (w0 : Nat) (x1 : Int32) (M : Mem) : Option (Int32 × Mem) := mW_lyingInb (mW_lyingIn_4 fuel) w0 x1 M
def cW_lyingIn : List (Ent (Int32 × Mem)) := [(false, 0, 1, sC 0),
  (false, 1, 1, sStI 2),
  (false, 2, 1, sC 0),
  (false, 3, 1, sStI 3),
  (true, 4, 1, sLdI 3),
  (false, 5, 1, sLdA 0),
  (false, 6, 3, sGet 1 (fun w i M => aI (M 1 w i 6))),
  (false, 9, 3, sCmpGe 37),
  (false, 12, 1, sLdA 0),
  (false, 13, 3, sGet 1 (fun w i M => aR (5, w, 0))),
  (false, 16, 1, sLdI 3),
  (false, 17, 1, sAald 5 5 6),
  (false, 18, 3, sGet 6 (fun w i M => aI (M 6 w i 3))),
  (false, 21, 1, sLdI 1),
  (false, 22, 3, sCmpNe 31),
  (false, 25, 1, sLdI 2),
  (false, 26, 1, sC 1),
  (false, 27, 1, sLdI 3),
  (false, 28, 1, sBin (fun x y => x <<< (y &&& 31))),
  (false, 29, 1, sBin (fun x y => x ||| y)),
  (false, 30, 1, sStI 2),
  (false, 31, 3, sInc 3 1),
  (false, 34, 3, sGoto 4),
  (false, 37, 1, sLdI 2),
  (false, 38, 1, sRetI)]
theorem oW_lyingIn {E : EV} (hsd : E.2.2.2 = 0) (l : Launch) : AllOK E l 1 "FreeLances$World" prog_11_method_5_code 4 (some .int) outI (cW_lyingIn) := by
  refine ak (ok_iconst (n := 0) (by decide) (by decide +kernel)) ?_
  refine ak (ok_istore_n (k := 2) rfl (by decide) (by decide +kernel)) ?_
  refine ak (ok_iconst (n := 0) (by decide) (by decide +kernel)) ?_
  refine ak (ok_istore_n (k := 3) rfl (by decide) (by decide +kernel)) ?_
  refine ak (ok_iload_n (k := 3) rfl (by decide +kernel)) ?_
  refine ak (ok_aload_n (k := 0) rfl (by decide +kernel)) ?_
  refine ak (ok_get (k := 6) ck9 kd1 (by decide) (fun _ _ _ => rfl) (fun _ _ _ _ _ => trivial) tw399 (by decide +kernel)) ?_
  refine ak (ok_icmp_ge (off := 28) (by decide) (by decide +kernel)) ?_
  refine ak (ok_aload_n (k := 0) rfl (by decide +kernel)) ?_
  refine ak (ok_get (k := 5) ck9 kd1 (by decide) (fun _ _ _ => rfl) (vf_1_5 hsd) tw396 (by decide +kernel)) ?_
  refine ak (ok_iload_n (k := 3) rfl (by decide +kernel)) ?_
  refine ak (ok_aald (t0 := 3) (C := RX1) kd5 (by decide) rfl (vr_5 hsd) (by decide +kernel)) ?_
  refine ak (ok_get (k := 3) ck1 kd6 (by decide) (fun _ _ _ => rfl) (fun _ _ _ _ _ => trivial) tw208 (by decide +kernel)) ?_
  refine ak (ok_iload_n (k := 1) rfl (by decide +kernel)) ?_
  refine ak (ok_icmp_ne (off := 9) (by decide) (by decide +kernel)) ?_
  refine ak (ok_iload_n (k := 2) rfl (by decide +kernel)) ?_
  refine ak (ok_iconst (n := 1) (by decide) (by decide +kernel)) ?_
  refine ak (ok_iload_n (k := 3) rfl (by decide +kernel)) ?_
  refine ak (ok_ishl (by decide +kernel)) ?_
  refine ak (ok_ior (by decide +kernel)) ?_
  refine ak (ok_istore_n (k := 2) rfl (by decide) (by decide +kernel)) ?_
  refine ak (ok_iinc (n := 1) (by decide) (by decide) (by decide +kernel)) ?_
  refine ak (ok_goto (off := (-30)) (by decide) (by decide +kernel)) ?_
  refine ak (ok_iload_n (k := 2) rfl (by decide +kernel)) ?_
  refine ak (ok_ireturn rfl (by decide +kernel)) ?_
  exact trivial
def KW_lyingIn_4 (j4 : Nat → Int32 → Int32 → Int32 → Mem → Option (Int32 × Mem)) : Jm (Int32 × Mem) := fun t als st M => match t, als, st with
  | 4, [.inr (.inr (.inl (1, w0, 0))), .inl x1, .inl x2, .inl x3], [] => j4 w0 x1 x2 x3 M
  | _, _, _ => none
set_option maxRecDepth 100000 in
theorem eW_lyingIn_4 (j4 : Nat → Int32 → Int32 → Int32 → Mem → Option (Int32 × Mem)) (w0 : Nat) (x1 : Int32) (x2 : Int32) (x3 : Int32) (M : Mem) : run (cW_lyingIn) (KW_lyingIn_4 j4) rtI 400 (seek (cW_lyingIn) 4) [aR (1, w0, 0), aI x1, aI x2, aI x3] [] M = mW_lyingIn_4b j4 w0 x1 x2 x3 M := rfl
theorem lW_lyingIn_4 {E : EV} {l : Launch} {p : Program} {e : Env} {s : State} {m : MethodId} {args : Array Value} {below : List Frame} {meth : Method} {c : Code} (A : AllOK E l 1 "FreeLances$World" prog_11_method_5_code 4 (some .int) outI (cW_lyingIn)) (C : Cx E p s m args meth c "FreeLances$World" prog_11_method_5_code 4 (some .int)) : ∀ (n : Nat), ∀ (w0 : Nat) (x1 : Int32) (x2 : Int32) (x3 : Int32) (M : Mem) (res : (Int32 × Mem)), mW_lyingIn_4 n w0 x1 x2 x3 M = some res → Wm E p l e 1 s m args below meth c 4 4 [aR (1, w0, 0), aI x1, aI x2, aI x3] [] M (outI res).1 (outI res).2 := by
  intro n
  induction n with
  | zero => intro _ _ _ _ M res h; cases h
  | succ n ih =>
    intro w0 x1 x2 x3 M res h
    refine run_at C A rfl hrtI (n := 400) ((eW_lyingIn_4 (mW_lyingIn_4 n) w0 x1 x2 x3 M).trans h) ?_
    intro t als st M hk
    unfold KW_lyingIn_4 at hk
    split at hk
    · exact ih _ _ _ _ _ _ hk
    · cases hk
def KW_lyingIn (j4 : Nat → Int32 → Int32 → Int32 → Mem → Option (Int32 × Mem)) : Jm (Int32 × Mem) := fun t als st M => match t, als, st with
  | 4, [.inr (.inr (.inl (1, w0, 0))), .inl x1, .inl x2, .inl x3], [] => j4 w0 x1 x2 x3 M
  | _, _, _ => none
set_option maxRecDepth 100000 in
theorem eW_lyingIn (j4 : Nat → Int32 → Int32 → Int32 → Mem → Option (Int32 × Mem)) (w0 : Nat) (x1 : Int32) (M : Mem) : run (cW_lyingIn) (KW_lyingIn j4) rtI 400 (seek (cW_lyingIn) 0) [aR (1, w0, 0), aI x1, aU, aU] [] M = mW_lyingInb j4 w0 x1 M := rfl
theorem lW_lyingIn {E : EV} {l : Launch} {p : Program} {e : Env} {s : State} {m : MethodId} {args : Array Value} {below : List Frame} {meth : Method} {c : Code} (A : AllOK E l 1 "FreeLances$World" prog_11_method_5_code 4 (some .int) outI (cW_lyingIn)) (C : Cx E p s m args meth c "FreeLances$World" prog_11_method_5_code 4 (some .int)) : ∀ (w0 : Nat) (x1 : Int32) (M : Mem) (res : (Int32 × Mem)), mW_lyingIn w0 x1 M = some res → Wm E p l e 1 s m args below meth c 4 0 [aR (1, w0, 0), aI x1, aU, aU] [] M (outI res).1 (outI res).2 := by
  intro w0 x1 M res h
  refine run_at C A rfl hrtI (n := 400) ((eW_lyingIn (mW_lyingIn_4 fuel) w0 x1 M).trans h) ?_
  intro t als st M hk
  unfold KW_lyingIn at hk
  split at hk
  · exact lW_lyingIn_4 A C _ _ _ _ _ _ _ hk
  · cases hk
def dW_lyingIn {β : Type} : Den β := fun as M k => match as with
  | [.inr (.inr (.inl (1, w0, 0))), .inl x1] => (mW_lyingIn w0 x1 M).bind fun q => k (aI q.1) q.2
  | _ => none
theorem wW_lyingIn {E : EV} (hsd : E.2.2.2 = 0) (l : Launch) (w0 : Nat) (x1 : Int32) (M : Mem) (q : (Int32 × Mem)) (hq : mW_lyingIn w0 x1 M = some q) : Con E l 1 yW_lyingIn prog_11_method_5_code 4 (some .int) [aR (1, w0, 0), aI x1] M (outI q).1 (outI q).2 := by
  refine con_of iW_lyingIn (Nat.le_of_ble_eq_true rfl) ?_
  intro p e s m args below meth c C
  exact lW_lyingIn (oW_lyingIn hsd l) C w0 x1 M _ hq
theorem kW_lyingIn {E : EV} (hsd : E.2.2.2 = 0) (l : Launch) {β : Type} : DenOK E l 1 yW_lyingIn prog_11_method_5_code 4 (some .int) true (dW_lyingIn (β := β)) := by
  intro as M k res h
  unfold dW_lyingIn at h
  split at h
  · obtain ⟨q, hq, hk⟩ := Option.bind_eq_some_iff.mp h
    exact ⟨aI q.1, q.2, hk, rfl, wW_lyingIn hsd l _ _ M q hq⟩
  · cases h
theorem qW_lyingIn {β : Type} : RecOK 1 (dW_lyingIn (β := β)) := by
  intro as M k res h
  unfold dW_lyingIn at h
  split at h
  · exact ⟨_, _, _, rfl⟩
  · cases h
/-! ===== FreeLances$Bond.isOf(I)Z ===== -/
abbrev yB_isOf : MethodName := ⟨"FreeLances$Bond", "isOf", "(I)Z"⟩
theorem iB_isOf : MI yB_isOf prog_2_method_4_code 4 (some .boolean) 1 := ⟨tw856, tw104, ⟨by decide, by decide⟩, by decide +kernel, by decide, by decide⟩
def mB_isOf_7b (j7 : Int32 → Int32 → Int32 → Mem → Option (Int32 × Mem)) (x1 : Int32) (x2 : Int32) (x3 : Int32) (M : Mem) : Option (Int32 × Mem) :=
  if x3 < 3 then
    if x2 < 0 then
      some (0, M)
    else
      if x2 = x1 then
        some (1, M)
      else
        ixx x2 7 fun k1 =>
        j7 x1 (tabA k1) (x3 + 1) M
  else
    some (0, M)
def mB_isOf_7 : Nat → Int32 → Int32 → Int32 → Mem → Option (Int32 × Mem)
  | 0, _, _, _, _ => none
  | n + 1, x1, x2, x3, M => mB_isOf_7b (mB_isOf_7 n) x1 x2 x3 M
def mB_isOfb (j7 : Int32 → Int32 → Int32 → Mem → Option (Int32 × Mem)) (w0 : Nat) (i0 : Nat) (x1 : Int32) (M : Mem) : Option (Int32 × Mem) :=
  j7 x1 (M 15 w0 i0 0) 0 M
def mB_isOf (w0 : Nat) (i0 : Nat) (x1 : Int32) (M : Mem) : Option (Int32 × Mem) := mB_isOfb (mB_isOf_7 fuel) w0 i0 x1 M
def cB_isOf : List (Ent (Int32 × Mem)) := [(false, 0, 1, sLdA 0),
  (false, 1, 3, sGet 15 (fun w i M => aI (M 15 w i 0))),
  (false, 4, 1, sStI 2),
  (false, 5, 1, sC 0),
  (false, 6, 1, sStI 3),
  (true, 7, 1, sLdI 3),
  (false, 8, 1, sC 3),
  (false, 9, 3, sCmpGe 35),
  (false, 12, 1, sLdI 2),
  (false, 13, 3, sIfLt 35),
  (false, 16, 1, sLdI 2),
  (false, 17, 1, sLdI 1),
  (false, 18, 3, sCmpNe 23),
  (false, 21, 1, sC 1),
  (false, 22, 1, sRetZ),
  (false, 23, 3, sGs (27, 0, 0)),
  (false, 26, 1, sLdI 2),
  (false, 27, 1, sTald 27 7 tabA),
  (false, 28, 1, sStI 2),
  (false, 29, 3, sInc 3 1),
  (false, 32, 3, sGoto 7),
  (false, 35, 1, sC 0),
  (false, 36, 1, sRetZ)]
theorem oB_isOf {E : EV} (hsd : E.2.2.2 = 0) (l : Launch) : AllOK E l 1 "FreeLances$Bond" prog_2_method_4_code 4 (some .boolean) outI (cB_isOf) := by
  refine ak (ok_aload_n (k := 0) rfl (by decide +kernel)) ?_
  refine ak (ok_get (k := 0) ck0 kd15 (by decide) (fun _ _ _ => rfl) (fun _ _ _ _ _ => trivial) tw324 (by decide +kernel)) ?_
  refine ak (ok_istore_n (k := 2) rfl (by decide) (by decide +kernel)) ?_
  refine ak (ok_iconst (n := 0) (by decide) (by decide +kernel)) ?_
  refine ak (ok_istore_n (k := 3) rfl (by decide) (by decide +kernel)) ?_
  refine ak (ok_iload_n (k := 3) rfl (by decide +kernel)) ?_
  refine ak (ok_iconst (n := 3) (by decide) (by decide +kernel)) ?_
  refine ak (ok_icmp_ge (off := 26) (by decide) (by decide +kernel)) ?_
  refine ak (ok_iload_n (k := 2) rfl (by decide +kernel)) ?_
  refine ak (ok_if_lt (off := 22) (by decide) (by decide +kernel)) ?_
  refine ak (ok_iload_n (k := 2) rfl (by decide +kernel)) ?_
  refine ak (ok_iload_n (k := 1) rfl (by decide +kernel)) ?_
  refine ak (ok_icmp_ne (off := 5) (by decide) (by decide +kernel)) ?_
  refine ak (ok_iconst (n := 1) (by decide) (by decide +kernel)) ?_
  refine ak (ok_zreturn rfl (by decide +kernel)) ?_
  refine ak (ok_gsAN tw857 (by decide +kernel)) ?_
  refine ak (ok_iload_n (k := 2) rfl (by decide +kernel)) ?_
  refine ak (ok_taldA hsd (by decide +kernel)) ?_
  refine ak (ok_istore_n (k := 2) rfl (by decide) (by decide +kernel)) ?_
  refine ak (ok_iinc (n := 1) (by decide) (by decide) (by decide +kernel)) ?_
  refine ak (ok_goto (off := (-25)) (by decide) (by decide +kernel)) ?_
  refine ak (ok_iconst (n := 0) (by decide) (by decide +kernel)) ?_
  refine ak (ok_zreturn rfl (by decide +kernel)) ?_
  exact trivial
def KB_isOf_7 (j7 : Int32 → Int32 → Int32 → Mem → Option (Int32 × Mem)) : Jm (Int32 × Mem) := fun t als st M => match t, als, st with
  | 7, [_, .inl x1, .inl x2, .inl x3], [] => j7 x1 x2 x3 M
  | _, _, _ => none
set_option maxRecDepth 100000 in
theorem eB_isOf_7 (j7 : Int32 → Int32 → Int32 → Mem → Option (Int32 × Mem)) (x1 : Int32) (x2 : Int32) (x3 : Int32) (M : Mem) (u0 : AV) : run (cB_isOf) (KB_isOf_7 j7) rtI 400 (seek (cB_isOf) 7) [u0, aI x1, aI x2, aI x3] [] M = mB_isOf_7b j7 x1 x2 x3 M := rfl
theorem lB_isOf_7 {E : EV} {l : Launch} {p : Program} {e : Env} {s : State} {m : MethodId} {args : Array Value} {below : List Frame} {meth : Method} {c : Code} (A : AllOK E l 1 "FreeLances$Bond" prog_2_method_4_code 4 (some .boolean) outI (cB_isOf)) (C : Cx E p s m args meth c "FreeLances$Bond" prog_2_method_4_code 4 (some .boolean)) : ∀ (n : Nat), ∀ (x1 : Int32) (x2 : Int32) (x3 : Int32) (M : Mem) (res : (Int32 × Mem)), mB_isOf_7 n x1 x2 x3 M = some res → ∀ (u0 : AV), Wm E p l e 1 s m args below meth c 4 7 [u0, aI x1, aI x2, aI x3] [] M (outI res).1 (outI res).2 := by
  intro n
  induction n with
  | zero => intro _ _ _ M res h; cases h
  | succ n ih =>
    intro x1 x2 x3 M res h u0
    refine run_at C A rfl hrtI (n := 400) ((eB_isOf_7 (mB_isOf_7 n) x1 x2 x3 M u0).trans h) ?_
    intro t als st M hk
    unfold KB_isOf_7 at hk
    split at hk
    · exact ih _ _ _ _ _ hk _
    · cases hk
def KB_isOf (j7 : Int32 → Int32 → Int32 → Mem → Option (Int32 × Mem)) : Jm (Int32 × Mem) := fun t als st M => match t, als, st with
  | 7, [_, .inl x1, .inl x2, .inl x3], [] => j7 x1 x2 x3 M
  | _, _, _ => none
set_option maxRecDepth 100000 in
theorem eB_isOf (j7 : Int32 → Int32 → Int32 → Mem → Option (Int32 × Mem)) (w0 : Nat) (i0 : Nat) (x1 : Int32) (M : Mem) : run (cB_isOf) (KB_isOf j7) rtI 400 (seek (cB_isOf) 0) [aR (15, w0, i0), aI x1, aU, aU] [] M = mB_isOfb j7 w0 i0 x1 M := rfl
theorem lB_isOf {E : EV} {l : Launch} {p : Program} {e : Env} {s : State} {m : MethodId} {args : Array Value} {below : List Frame} {meth : Method} {c : Code} (A : AllOK E l 1 "FreeLances$Bond" prog_2_method_4_code 4 (some .boolean) outI (cB_isOf)) (C : Cx E p s m args meth c "FreeLances$Bond" prog_2_method_4_code 4 (some .boolean)) : ∀ (w0 : Nat) (i0 : Nat) (x1 : Int32) (M : Mem) (res : (Int32 × Mem)), mB_isOf w0 i0 x1 M = some res → Wm E p l e 1 s m args below meth c 4 0 [aR (15, w0, i0), aI x1, aU, aU] [] M (outI res).1 (outI res).2 := by
  intro w0 i0 x1 M res h
  refine run_at C A rfl hrtI (n := 400) ((eB_isOf (mB_isOf_7 fuel) w0 i0 x1 M).trans h) ?_
  intro t als st M hk
  unfold KB_isOf at hk
  split at hk
  · exact lB_isOf_7 A C _ _ _ _ _ _ hk _
  · cases hk
def dB_isOf {β : Type} : Den β := fun as M k => match as with
  | [.inr (.inr (.inl (15, w0, i0))), .inl x1] => (mB_isOf w0 i0 x1 M).bind fun q => k (aI q.1) q.2
  | _ => none
theorem wB_isOf {E : EV} (hsd : E.2.2.2 = 0) (l : Launch) (w0 : Nat) (i0 : Nat) (x1 : Int32) (M : Mem) (q : (Int32 × Mem)) (hq : mB_isOf w0 i0 x1 M = some q) : Con E l 1 yB_isOf prog_2_method_4_code 4 (some .boolean) [aR (15, w0, i0), aI x1] M (outI q).1 (outI q).2 := by
  refine con_of iB_isOf (Nat.le_of_ble_eq_true rfl) ?_
  intro p e s m args below meth c C
  exact lB_isOf (oB_isOf hsd l) C w0 i0 x1 M _ hq
theorem kB_isOf {E : EV} (hsd : E.2.2.2 = 0) (l : Launch) {β : Type} : DenOK E l 1 yB_isOf prog_2_method_4_code 4 (some .boolean) true (dB_isOf (β := β)) := by
  intro as M k res h
  unfold dB_isOf at h
  split at h
  · obtain ⟨q, hq, hk⟩ := Option.bind_eq_some_iff.mp h
    exact ⟨aI q.1, q.2, hk, rfl, wB_isOf hsd l _ _ _ M q hq⟩
  · cases h
theorem qB_isOf {β : Type} : RecOK 15 (dB_isOf (β := β)) := by
  intro as M k res h
  unfold dB_isOf at h
  split at h
  · exact ⟨_, _, _, rfl⟩
  · cases h
/-! ===== FreeLances$Plans.hirePlace(II)I ===== -/
abbrev yP_hirePlace : MethodName := ⟨"FreeLances$Plans", "hirePlace", "(II)I"⟩
theorem iP_hirePlace : MI yP_hirePlace prog_5_method_11_code 2 (some .int) 2 := ⟨tw1047, tw107, ⟨by decide, by decide⟩, by decide +kernel, by decide, by decide⟩
def mP_hirePlace (x0 : Int32) (x1 : Int32) (M : Mem) : Option (Int32 × Mem) :=
  some (((x0 * 6) + x1) + 1, M)
def cP_hirePlace : List (Ent (Int32 × Mem)) := [(false, 0, 1, sLdI 0),
  (false, 1, 2, sC 6),
  (false, 3, 1, sBin (fun x y => x * y)),
  (false, 4, 1, sLdI 1),
  (false, 5, 1, sBin (fun x y => x + y)),
  (false, 6, 1, sC 1),
  (false, 7, 1, sBin (fun x y => x + y)),
  (false, 8, 1, sRetI)]
theorem oP_hirePlace {E : EV} (hsd : E.2.2.2 = 0) (l : Launch) : AllOK E l 1 "FreeLances$Plans" prog_5_method_11_code 2 (some .int) outI (cP_hirePlace) := by
  refine ak (ok_iload_n (k := 0) rfl (by decide +kernel)) ?_
  refine ak (ok_bipush (n := 6) (by decide) (by decide +kernel)) ?_
  refine ak (ok_imul (by decide +kernel)) ?_
  refine ak (ok_iload_n (k := 1) rfl (by decide +kernel)) ?_
  refine ak (ok_iadd (by decide +kernel)) ?_
  refine ak (ok_iconst (n := 1) (by decide) (by decide +kernel)) ?_
  refine ak (ok_iadd (by decide +kernel)) ?_
  refine ak (ok_ireturn rfl (by decide +kernel)) ?_
  exact trivial
set_option maxRecDepth 100000 in
theorem eP_hirePlace (x0 : Int32) (x1 : Int32) (M : Mem) : run (cP_hirePlace) (fun _ _ _ _ => none) rtI 400 (seek (cP_hirePlace) 0) [aI x0, aI x1] [] M = mP_hirePlace x0 x1 M := rfl
theorem lP_hirePlace {E : EV} {l : Launch} {p : Program} {e : Env} {s : State} {m : MethodId} {args : Array Value} {below : List Frame} {meth : Method} {c : Code} (A : AllOK E l 1 "FreeLances$Plans" prog_5_method_11_code 2 (some .int) outI (cP_hirePlace)) (C : Cx E p s m args meth c "FreeLances$Plans" prog_5_method_11_code 2 (some .int)) : ∀ (x0 : Int32) (x1 : Int32) (M : Mem) (res : (Int32 × Mem)), mP_hirePlace x0 x1 M = some res → Wm E p l e 1 s m args below meth c 2 0 [aI x0, aI x1] [] M (outI res).1 (outI res).2 := by
  intro x0 x1 M res h
  refine run_at C A rfl hrtI (n := 400) ((eP_hirePlace x0 x1 M).trans h) ?_
  intro t als st M hk; cases hk
def dP_hirePlace {β : Type} : Den β := fun as M k => match as with
  | [.inl x0, .inl x1] => (mP_hirePlace x0 x1 M).bind fun q => k (aI q.1) q.2
  | _ => none
theorem wP_hirePlace {E : EV} (hsd : E.2.2.2 = 0) (l : Launch) (x0 : Int32) (x1 : Int32) (M : Mem) (q : (Int32 × Mem)) (hq : mP_hirePlace x0 x1 M = some q) : Con E l 1 yP_hirePlace prog_5_method_11_code 2 (some .int) [aI x0, aI x1] M (outI q).1 (outI q).2 := by
  refine con_of iP_hirePlace (Nat.le_of_ble_eq_true rfl) ?_
  intro p e s m args below meth c C
  exact lP_hirePlace (oP_hirePlace hsd l) C x0 x1 M _ hq
theorem kP_hirePlace {E : EV} (hsd : E.2.2.2 = 0) (l : Launch) {β : Type} : DenOK E l 1 yP_hirePlace prog_5_method_11_code 2 (some .int) true (dP_hirePlace (β := β)) := by
  intro as M k res h
  unfold dP_hirePlace at h
  split at h
  · obtain ⟨q, hq, hk⟩ := Option.bind_eq_some_iff.mp h
    exact ⟨aI q.1, q.2, hk, rfl, wP_hirePlace hsd l _ _ M q hq⟩
  · cases h
/-! ===== FreeLancesModel.in(III)Z ===== -/
abbrev yK_in : MethodName := ⟨"FreeLancesModel", "in", "(III)Z"⟩
theorem iK_in : MI yK_in prog_13_method_3_code 3 (some .boolean) 3 := ⟨tw1331, tw108, ⟨by decide, by decide⟩, by decide +kernel, by decide, by decide⟩
def mK_in (x0 : Int32) (x1 : Int32) (x2 : Int32) (M : Mem) : Option (Int32 × Mem) :=
  if x0 < x1 then
    some (0, M)
  else
    if x0 ≤ x2 then
      some (1, M)
    else
      some (0, M)
def cK_in : List (Ent (Int32 × Mem)) := [(false, 0, 1, sLdI 0),
  (false, 1, 1, sLdI 1),
  (false, 2, 3, sCmpLt 14),
  (false, 5, 1, sLdI 0),
  (false, 6, 1, sLdI 2),
  (false, 7, 3, sCmpGt 14),
  (false, 10, 1, sC 1),
  (false, 11, 3, sGoto 15),
  (false, 14, 1, sC 0),
  (false, 15, 1, sRetZ)]
theorem oK_in {E : EV} (hsd : E.2.2.2 = 1) (l : Launch) : AllOK E l 1 "FreeLancesModel" prog_13_method_3_code 3 (some .boolean) outI (cK_in) := by
  refine ak (ok_iload_n (k := 0) rfl (by decide +kernel)) ?_
  refine ak (ok_iload_n (k := 1) rfl (by decide +kernel)) ?_
  refine ak (ok_icmp_lt (off := 12) (by decide) (by decide +kernel)) ?_
  refine ak (ok_iload_n (k := 0) rfl (by decide +kernel)) ?_
  refine ak (ok_iload_n (k := 2) rfl (by decide +kernel)) ?_
  refine ak (ok_icmp_gt (off := 7) (by decide) (by decide +kernel)) ?_
  refine ak (ok_iconst (n := 1) (by decide) (by decide +kernel)) ?_
  refine ak (ok_goto (off := 4) (by decide) (by decide +kernel)) ?_
  refine ak (ok_iconst (n := 0) (by decide) (by decide +kernel)) ?_
  refine ak (ok_zreturn rfl (by decide +kernel)) ?_
  exact trivial
set_option maxRecDepth 100000 in
theorem eK_in (x0 : Int32) (x1 : Int32) (x2 : Int32) (M : Mem) : run (cK_in) (fun _ _ _ _ => none) rtI 400 (seek (cK_in) 0) [aI x0, aI x1, aI x2] [] M = mK_in x0 x1 x2 M := rfl
theorem lK_in {E : EV} {l : Launch} {p : Program} {e : Env} {s : State} {m : MethodId} {args : Array Value} {below : List Frame} {meth : Method} {c : Code} (A : AllOK E l 1 "FreeLancesModel" prog_13_method_3_code 3 (some .boolean) outI (cK_in)) (C : Cx E p s m args meth c "FreeLancesModel" prog_13_method_3_code 3 (some .boolean)) : ∀ (x0 : Int32) (x1 : Int32) (x2 : Int32) (M : Mem) (res : (Int32 × Mem)), mK_in x0 x1 x2 M = some res → Wm E p l e 1 s m args below meth c 3 0 [aI x0, aI x1, aI x2] [] M (outI res).1 (outI res).2 := by
  intro x0 x1 x2 M res h
  refine run_at C A rfl hrtI (n := 400) ((eK_in x0 x1 x2 M).trans h) ?_
  intro t als st M hk; cases hk
def dK_in {β : Type} : Den β := fun as M k => match as with
  | [.inl x0, .inl x1, .inl x2] => (mK_in x0 x1 x2 M).bind fun q => k (aI q.1) q.2
  | _ => none
theorem wK_in {E : EV} (hsd : E.2.2.2 = 1) (l : Launch) (x0 : Int32) (x1 : Int32) (x2 : Int32) (M : Mem) (q : (Int32 × Mem)) (hq : mK_in x0 x1 x2 M = some q) : Con E l 1 yK_in prog_13_method_3_code 3 (some .boolean) [aI x0, aI x1, aI x2] M (outI q).1 (outI q).2 := by
  refine con_of iK_in (Nat.le_of_ble_eq_true rfl) ?_
  intro p e s m args below meth c C
  exact lK_in (oK_in hsd l) C x0 x1 x2 M _ hq
theorem kK_in {E : EV} (hsd : E.2.2.2 = 1) (l : Launch) {β : Type} : DenOK E l 1 yK_in prog_13_method_3_code 3 (some .boolean) true (dK_in (β := β)) := by
  intro as M k res h
  unfold dK_in at h
  split at h
  · obtain ⟨q, hq, hk⟩ := Option.bind_eq_some_iff.mp h
    exact ⟨aI q.1, q.2, hk, rfl, wK_in hsd l _ _ _ M q hq⟩
  · cases h
/-! ===== FreeLancesModel.finds(I)I ===== -/
abbrev yK_finds : MethodName := ⟨"FreeLancesModel", "finds", "(I)I"⟩
theorem iK_finds : MI yK_finds prog_13_method_4_code 2 (some .int) 1 := ⟨tw1335, tw108, ⟨by decide, by decide⟩, by decide +kernel, by decide, by decide⟩
def mK_finds (x1 : Int32) (M : Mem) : Option (Int32 × Mem) :=
  ixx x1 6 fun k1 =>
  ixx x1 6 fun k3 =>
  let M2 : Mem := up M 44 0 0 k3 ((M 44 0 0 k1) + 1)
  some ((-1000000) - x1, M2)
def cK_finds : List (Ent (Int32 × Mem)) := [(false, 0, 1, sLdA 0),
  (false, 1, 3, sGet 40 (fun w i M => aR (44, 0, 0))),
  (false, 4, 1, sLdI 1),
  (false, 5, 1, sDup2),
  (false, 6, 1, sIald 44 6),
  (false, 7, 1, sC 1),
  (false, 8, 1, sBin (fun x y => x + y)),
  (false, 9, 1, sIast 44 6),
  (false, 10, 2, sC (-1000000)),
  (false, 12, 1, sLdI 1),
  (false, 13, 1, sBin (fun x y => x - y)),
  (false, 14, 1, sRetI)]
theorem oK_finds {E : EV} (hsd : E.2.2.2 = 1) (l : Launch) : AllOK E l 1 "FreeLancesModel" prog_13_method_4_code 2 (some .int) outI (cK_finds) := by
  refine ak (ok_aload_n (k := 0) rfl (by decide +kernel)) ?_
  refine ak (ok_get (k := 3) ck11 kd40 (by decide) (fun _ _ _ => rfl) (vf_40_3 hsd) tw1245 (by decide +kernel)) ?_
  refine ak (ok_iload_n (k := 1) rfl (by decide +kernel)) ?_
  refine ak (ok_dup2 (by decide +kernel)) ?_
  refine ak (ok_iald kd44 (by decide) (by decide +kernel)) ?_
  refine ak (ok_iconst (n := 1) (by decide) (by decide +kernel)) ?_
  refine ak (ok_iadd (by decide +kernel)) ?_
  refine ak (ok_iast kd44 (by decide) (by decide) (by decide +kernel)) ?_
  refine ak (ok_ldc tw1336 (by decide +kernel)) ?_
  refine ak (ok_iload_n (k := 1) rfl (by decide +kernel)) ?_
  refine ak (ok_isub (by decide +kernel)) ?_
  refine ak (ok_ireturn rfl (by decide +kernel)) ?_
  exact trivial
set_option maxRecDepth 100000 in
theorem eK_finds (x1 : Int32) (M : Mem) : run (cK_finds) (fun _ _ _ _ => none) rtI 400 (seek (cK_finds) 0) [aR (40, 0, 0), aI x1] [] M = mK_finds x1 M := rfl
theorem lK_finds {E : EV} {l : Launch} {p : Program} {e : Env} {s : State} {m : MethodId} {args : Array Value} {below : List Frame} {meth : Method} {c : Code} (A : AllOK E l 1 "FreeLancesModel" prog_13_method_4_code 2 (some .int) outI (cK_finds)) (C : Cx E p s m args meth c "FreeLancesModel" prog_13_method_4_code 2 (some .int)) : ∀ (x1 : Int32) (M : Mem) (res : (Int32 × Mem)), mK_finds x1 M = some res → Wm E p l e 1 s m args below meth c 2 0 [aR (40, 0, 0), aI x1] [] M (outI res).1 (outI res).2 := by
  intro x1 M res h
  refine run_at C A rfl hrtI (n := 400) ((eK_finds x1 M).trans h) ?_
  intro t als st M hk; cases hk
def dK_finds {β : Type} : Den β := fun as M k => match as with
  | [.inr (.inr (.inl (40, 0, 0))), .inl x1] => (mK_finds x1 M).bind fun q => k (aI q.1) q.2
  | _ => none
theorem wK_finds {E : EV} (hsd : E.2.2.2 = 1) (l : Launch) (x1 : Int32) (M : Mem) (q : (Int32 × Mem)) (hq : mK_finds x1 M = some q) : Con E l 1 yK_finds prog_13_method_4_code 2 (some .int) [aR (40, 0, 0), aI x1] M (outI q).1 (outI q).2 := by
  refine con_of iK_finds (Nat.le_of_ble_eq_true rfl) ?_
  intro p e s m args below meth c C
  exact lK_finds (oK_finds hsd l) C x1 M _ hq
theorem kK_finds {E : EV} (hsd : E.2.2.2 = 1) (l : Launch) {β : Type} : DenOK E l 1 yK_finds prog_13_method_4_code 2 (some .int) true (dK_finds (β := β)) := by
  intro as M k res h
  unfold dK_finds at h
  split at h
  · obtain ⟨q, hq, hk⟩ := Option.bind_eq_some_iff.mp h
    exact ⟨aI q.1, q.2, hk, rfl, wK_finds hsd l _ M q hq⟩
  · cases h
theorem qK_finds {β : Type} : RecOK 40 (dK_finds (β := β)) := by
  intro as M k res h
  unfold dK_finds at h
  split at h
  · exact ⟨_, _, _, rfl⟩
  · cases h
/-! ===== FreeLancesModel.town(II)I ===== -/
abbrev yK_town : MethodName := ⟨"FreeLancesModel", "town", "(II)I"⟩
theorem iK_town : MI yK_town prog_13_method_19_code 4 (some .int) 2 := ⟨tw1327, tw108, ⟨by decide, by decide⟩, by decide +kernel, by decide, by decide⟩
def mK_town (x1 : Int32) (x2 : Int32) (M : Mem) : Option (Int32 × Mem) :=
  (mK_in x1 0 99999 M).bind fun q1 =>
  if q1.1 = 0 then
    (mK_finds 1 q1.2).bind fun q2 =>
    some (q2.1, q2.2)
  else
    (mK_in x2 0 99999 q1.2).bind fun q3 =>
    if q3.1 = 0 then
      (mK_finds 1 q3.2).bind fun q4 =>
      some (q4.1, q4.2)
    else
      if (q3.2 41 0 0 0) = 8 then
        (mK_finds 4 q3.2).bind fun q5 =>
        some (q5.1, q5.2)
      else
        let M6 : Mem := up q3.2 41 0 0 0 ((q3.2 41 0 0 0) + 1)
        ixx (20 + (4 * (q3.2 41 0 0 0))) 1502 fun k8 =>
        let M7 : Mem := up M6 41 0 0 k8 x1
        ixx ((20 + (4 * (q3.2 41 0 0 0))) + 1) 1502 fun k10 =>
        let M9 : Mem := up M7 41 0 0 k10 x2
        ixx ((20 + (4 * (q3.2 41 0 0 0))) + 2) 1502 fun k12 =>
        let M11 : Mem := up M9 41 0 0 k12 100
        ixx ((20 + (4 * (q3.2 41 0 0 0))) + 3) 1502 fun k14 =>
        let M13 : Mem := up M11 41 0 0 k14 0
        some (q3.2 41 0 0 0, M13)
def cK_town : List (Ent (Int32 × Mem)) := [(false, 0, 1, sLdI 1),
  (false, 1, 1, sC 0),
  (false, 2, 2, sC 99999),
  (false, 4, 3, sInv 3 true dK_in),
  (false, 7, 3, sIfEq 20),
  (false, 10, 1, sLdI 2),
  (false, 11, 1, sC 0),
  (false, 12, 2, sC 99999),
  (false, 14, 3, sInv 3 true dK_in),
  (false, 17, 3, sIfNe 26),
  (false, 20, 1, sLdA 0),
  (false, 21, 1, sC 1),
  (false, 22, 3, sInv 2 true dK_finds),
  (false, 25, 1, sRetI),
  (false, 26, 1, sLdA 0),
  (false, 27, 3, sGet 40 (fun w i M => aR (41, 0, 0))),
  (false, 30, 1, sC 0),
  (false, 31, 1, sIald 41 1502),
  (false, 32, 1, sStI 3),
  (false, 33, 1, sLdI 3),
  (false, 34, 2, sC 8),
  (false, 36, 3, sCmpNe 45),
  (false, 39, 1, sLdA 0),
  (false, 40, 1, sC 4),
  (false, 41, 3, sInv 2 true dK_finds),
  (false, 44, 1, sRetI),
  (false, 45, 1, sLdA 0),
  (false, 46, 3, sGet 40 (fun w i M => aR (41, 0, 0))),
  (false, 49, 1, sC 0),
  (false, 50, 1, sDup2),
  (false, 51, 1, sIald 41 1502),
  (false, 52, 1, sC 1),
  (false, 53, 1, sBin (fun x y => x + y)),
  (false, 54, 1, sIast 41 1502),
  (false, 55, 1, sLdA 0),
  (false, 56, 3, sGet 40 (fun w i M => aR (41, 0, 0))),
  (false, 59, 2, sC 20),
  (false, 61, 1, sC 4),
  (false, 62, 1, sLdI 3),
  (false, 63, 1, sBin (fun x y => x * y)),
  (false, 64, 1, sBin (fun x y => x + y)),
  (false, 65, 1, sLdI 1),
  (false, 66, 1, sIast 41 1502),
  (false, 67, 1, sLdA 0),
  (false, 68, 3, sGet 40 (fun w i M => aR (41, 0, 0))),
  (false, 71, 2, sC 20),
  (false, 73, 1, sC 4),
  (false, 74, 1, sLdI 3),
  (false, 75, 1, sBin (fun x y => x * y)),
  (false, 76, 1, sBin (fun x y => x + y)),
  (false, 77, 1, sC 1),
  (false, 78, 1, sBin (fun x y => x + y)),
  (false, 79, 1, sLdI 2),
  (false, 80, 1, sIast 41 1502),
  (false, 81, 1, sLdA 0),
  (false, 82, 3, sGet 40 (fun w i M => aR (41, 0, 0))),
  (false, 85, 2, sC 20),
  (false, 87, 1, sC 4),
  (false, 88, 1, sLdI 3),
  (false, 89, 1, sBin (fun x y => x * y)),
  (false, 90, 1, sBin (fun x y => x + y)),
  (false, 91, 1, sC 2),
  (false, 92, 1, sBin (fun x y => x + y)),
  (false, 93, 2, sC 100),
  (false, 95, 1, sIast 41 1502),
  (false, 96, 1, sLdA 0),
  (false, 97, 3, sGet 40 (fun w i M => aR (41, 0, 0))),
  (false, 100, 2, sC 20),
  (false, 102, 1, sC 4),
  (false, 103, 1, sLdI 3),
  (false, 104, 1, sBin (fun x y => x * y)),
  (false, 105, 1, sBin (fun x y => x + y)),
  (false, 106, 1, sC 3),
  (false, 107, 1, sBin (fun x y => x + y)),
  (false, 108, 1, sC 0),
  (false, 109, 1, sIast 41 1502),
  (false, 110, 1, sLdI 3),
  (false, 111, 1, sRetI)]
theorem oK_town {E : EV} (hsd : E.2.2.2 = 1) (l : Launch) : AllOK E l 2 "FreeLancesModel" prog_13_method_19_code 4 (some .int) outI (cK_town) := by
  refine ak (ok_iload_n (k := 1) rfl (by decide +kernel)) ?_
  refine ak (ok_iconst (n := 0) (by decide) (by decide +kernel)) ?_
  refine ak (ok_ldc tw1328 (by decide +kernel)) ?_
  refine ak (ok_invS (kK_in hsd l) iK_in tw1330 (by decide) tw1329 (by decide +kernel)) ?_
  refine ak (ok_if_eq (off := 13) (by decide) (by decide +kernel)) ?_
  refine ak (ok_iload_n (k := 2) rfl (by decide +kernel)) ?_
  refine ak (ok_iconst (n := 0) (by decide) (by decide +kernel)) ?_
  refine ak (ok_ldc tw1328 (by decide +kernel)) ?_
  refine ak (ok_invS (kK_in hsd l) iK_in tw1330 (by decide) tw1329 (by decide +kernel)) ?_
  refine ak (ok_if_ne (off := 9) (by decide) (by decide +kernel)) ?_
  refine ak (ok_aload_n (k := 0) rfl (by decide +kernel)) ?_
  refine ak (ok_iconst (n := 1) (by decide) (by decide +kernel)) ?_
  refine ak (ok_invV (r := 40) (kK_finds hsd l) qK_finds ck11 kd40 iK_finds tw1334 tw37 (by decide) tw1332 (by decide +kernel)) ?_
  refine ak (ok_ireturn rfl (by decide +kernel)) ?_
  refine ak (ok_aload_n (k := 0) rfl (by decide +kernel)) ?_
  refine ak (ok_get (k := 0) ck11 kd40 (by decide) (fun _ _ _ => rfl) (vf_40_0 hsd) tw1242 (by decide +kernel)) ?_
  refine ak (ok_iconst (n := 0) (by decide) (by decide +kernel)) ?_
  refine ak (ok_iald kd41 (by decide) (by decide +kernel)) ?_
  refine ak (ok_istore_n (k := 3) rfl (by decide) (by decide +kernel)) ?_
  refine ak (ok_iload_n (k := 3) rfl (by decide +kernel)) ?_
  refine ak (ok_bipush (n := 8) (by decide) (by decide +kernel)) ?_
  refine ak (ok_icmp_ne (off := 9) (by decide) (by decide +kernel)) ?_
  refine ak (ok_aload_n (k := 0) rfl (by decide +kernel)) ?_
  refine ak (ok_iconst (n := 4) (by decide) (by decide +kernel)) ?_
  refine ak (ok_invV (r := 40) (kK_finds hsd l) qK_finds ck11 kd40 iK_finds tw1334 tw37 (by decide) tw1332 (by decide +kernel)) ?_
  refine ak (ok_ireturn rfl (by decide +kernel)) ?_
  refine ak (ok_aload_n (k := 0) rfl (by decide +kernel)) ?_
  refine ak (ok_get (k := 0) ck11 kd40 (by decide) (fun _ _ _ => rfl) (vf_40_0 hsd) tw1242 (by decide +kernel)) ?_
  refine ak (ok_iconst (n := 0) (by decide) (by decide +kernel)) ?_
  refine ak (ok_dup2 (by decide +kernel)) ?_
  refine ak (ok_iald kd41 (by decide) (by decide +kernel)) ?_
  refine ak (ok_iconst (n := 1) (by decide) (by decide +kernel)) ?_
  refine ak (ok_iadd (by decide +kernel)) ?_
  refine ak (ok_iast kd41 (by decide) (by decide) (by decide +kernel)) ?_
  refine ak (ok_aload_n (k := 0) rfl (by decide +kernel)) ?_
  refine ak (ok_get (k := 0) ck11 kd40 (by decide) (fun _ _ _ => rfl) (vf_40_0 hsd) tw1242 (by decide +kernel)) ?_
  refine ak (ok_bipush (n := 20) (by decide) (by decide +kernel)) ?_
  refine ak (ok_iconst (n := 4) (by decide) (by decide +kernel)) ?_
  refine ak (ok_iload_n (k := 3) rfl (by decide +kernel)) ?_
  refine ak (ok_imul (by decide +kernel)) ?_
  refine ak (ok_iadd (by decide +kernel)) ?_
  refine ak (ok_iload_n (k := 1) rfl (by decide +kernel)) ?_
  refine ak (ok_iast kd41 (by decide) (by decide) (by decide +kernel)) ?_
  refine ak (ok_aload_n (k := 0) rfl (by decide +kernel)) ?_
  refine ak (ok_get (k := 0) ck11 kd40 (by decide) (fun _ _ _ => rfl) (vf_40_0 hsd) tw1242 (by decide +kernel)) ?_
  refine ak (ok_bipush (n := 20) (by decide) (by decide +kernel)) ?_
  refine ak (ok_iconst (n := 4) (by decide) (by decide +kernel)) ?_
  refine ak (ok_iload_n (k := 3) rfl (by decide +kernel)) ?_
  refine ak (ok_imul (by decide +kernel)) ?_
  refine ak (ok_iadd (by decide +kernel)) ?_
  refine ak (ok_iconst (n := 1) (by decide) (by decide +kernel)) ?_
  refine ak (ok_iadd (by decide +kernel)) ?_
  refine ak (ok_iload_n (k := 2) rfl (by decide +kernel)) ?_
  refine ak (ok_iast kd41 (by decide) (by decide) (by decide +kernel)) ?_
  refine ak (ok_aload_n (k := 0) rfl (by decide +kernel)) ?_
  refine ak (ok_get (k := 0) ck11 kd40 (by decide) (fun _ _ _ => rfl) (vf_40_0 hsd) tw1242 (by decide +kernel)) ?_
  refine ak (ok_bipush (n := 20) (by decide) (by decide +kernel)) ?_
  refine ak (ok_iconst (n := 4) (by decide) (by decide +kernel)) ?_
  refine ak (ok_iload_n (k := 3) rfl (by decide +kernel)) ?_
  refine ak (ok_imul (by decide +kernel)) ?_
  refine ak (ok_iadd (by decide +kernel)) ?_
  refine ak (ok_iconst (n := 2) (by decide) (by decide +kernel)) ?_
  refine ak (ok_iadd (by decide +kernel)) ?_
  refine ak (ok_bipush (n := 100) (by decide) (by decide +kernel)) ?_
  refine ak (ok_iast kd41 (by decide) (by decide) (by decide +kernel)) ?_
  refine ak (ok_aload_n (k := 0) rfl (by decide +kernel)) ?_
  refine ak (ok_get (k := 0) ck11 kd40 (by decide) (fun _ _ _ => rfl) (vf_40_0 hsd) tw1242 (by decide +kernel)) ?_
  refine ak (ok_bipush (n := 20) (by decide) (by decide +kernel)) ?_
  refine ak (ok_iconst (n := 4) (by decide) (by decide +kernel)) ?_
  refine ak (ok_iload_n (k := 3) rfl (by decide +kernel)) ?_
  refine ak (ok_imul (by decide +kernel)) ?_
  refine ak (ok_iadd (by decide +kernel)) ?_
  refine ak (ok_iconst (n := 3) (by decide) (by decide +kernel)) ?_
  refine ak (ok_iadd (by decide +kernel)) ?_
  refine ak (ok_iconst (n := 0) (by decide) (by decide +kernel)) ?_
  refine ak (ok_iast kd41 (by decide) (by decide) (by decide +kernel)) ?_
  refine ak (ok_iload_n (k := 3) rfl (by decide +kernel)) ?_
  refine ak (ok_ireturn rfl (by decide +kernel)) ?_
  exact trivial
set_option maxRecDepth 100000 in
theorem eK_town (x1 : Int32) (x2 : Int32) (M : Mem) : run (cK_town) (fun _ _ _ _ => none) rtI 400 (seek (cK_town) 0) [aR (40, 0, 0), aI x1, aI x2, aU] [] M = mK_town x1 x2 M := rfl
theorem lK_town {E : EV} {l : Launch} {p : Program} {e : Env} {s : State} {m : MethodId} {args : Array Value} {below : List Frame} {meth : Method} {c : Code} (A : AllOK E l 2 "FreeLancesModel" prog_13_method_19_code 4 (some .int) outI (cK_town)) (C : Cx E p s m args meth c "FreeLancesModel" prog_13_method_19_code 4 (some .int)) : ∀ (x1 : Int32) (x2 : Int32) (M : Mem) (res : (Int32 × Mem)), mK_town x1 x2 M = some res → Wm E p l e 2 s m args below meth c 4 0 [aR (40, 0, 0), aI x1, aI x2, aU] [] M (outI res).1 (outI res).2 := by
  intro x1 x2 M res h
  refine run_at C A rfl hrtI (n := 400) ((eK_town x1 x2 M).trans h) ?_
  intro t als st M hk; cases hk
def dK_town {β : Type} : Den β := fun as M k => match as with
  | [.inr (.inr (.inl (40, 0, 0))), .inl x1, .inl x2] => (mK_town x1 x2 M).bind fun q => k (aI q.1) q.2
  | _ => none
theorem wK_town {E : EV} (hsd : E.2.2.2 = 1) (l : Launch) (x1 : Int32) (x2 : Int32) (M : Mem) (q : (Int32 × Mem)) (hq : mK_town x1 x2 M = some q) : Con E l 2 yK_town prog_13_method_19_code 4 (some .int) [aR (40, 0, 0), aI x1, aI x2] M (outI q).1 (outI q).2 := by
  refine con_of iK_town (Nat.le_of_ble_eq_true rfl) ?_
  intro p e s m args below meth c C
  exact lK_town (oK_town hsd l) C x1 x2 M _ hq
theorem kK_town {E : EV} (hsd : E.2.2.2 = 1) (l : Launch) {β : Type} : DenOK E l 2 yK_town prog_13_method_19_code 4 (some .int) true (dK_town (β := β)) := by
  intro as M k res h
  unfold dK_town at h
  split at h
  · obtain ⟨q, hq, hk⟩ := Option.bind_eq_some_iff.mp h
    exact ⟨aI q.1, q.2, hk, rfl, wK_town hsd l _ _ M q hq⟩
  · cases h
theorem qK_town {β : Type} : RecOK 40 (dK_town (β := β)) := by
  intro as M k res h
  unfold dK_town at h
  split at h
  · exact ⟨_, _, _, rfl⟩
  · cases h
