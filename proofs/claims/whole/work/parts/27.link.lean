/-! ===== FreeLances$Voices.speak(IIIII)I ===== -/
abbrev yV_speak : MethodName := ⟨"FreeLances$Voices", "speak", "(IIIII)I"⟩
theorem iV_speak : MI yV_speak prog_10_method_2_code 6 (some .int) 5 := ⟨tw1134, tw106, ⟨by decide, by decide⟩, by decide +kernel, by decide, by decide⟩
def cV_speak : List (Ent (Int32 × Mem)) := [(false, 0, 1, sLdA 0),
  (false, 1, 1, sLdI 1),
  (false, 2, 3, sPut 21 2),
  (false, 5, 1, sLdA 0),
  (false, 6, 1, sLdI 2),
  (false, 7, 3, sPut 21 3),
  (false, 10, 1, sLdA 0),
  (false, 11, 1, sLdI 3),
  (false, 12, 3, sPut 21 4),
  (false, 15, 1, sLdA 0),
  (false, 16, 1, sC 0),
  (false, 17, 3, sPut 21 1),
  (false, 20, 1, sLdA 0),
  (false, 21, 2, sLdI 4),
  (false, 23, 2, sLdI 5),
  (false, 25, 1, sC 0),
  (false, 26, 3, sInv 4 true (dV_own xV_own)),
  (false, 29, 1, sRetI)]
theorem oV_speak {E : EV} (hsd : E.2.2.2 = 0) (l : Launch) : AllOK E l 61 "FreeLances$Voices" prog_10_method_2_code 6 (some .int) outI (cV_speak) := by
  refine ak (ok_aload_n (k := 0) rfl (by decide +kernel)) ?_
  refine ak (ok_iload_n (k := 1) rfl (by decide +kernel)) ?_
  refine ak (ok_put (k := 2) ck8 kd21 (by decide) (fun _ _ _ => rfl) rfl rfl (by decide) tw495 (by decide +kernel)) ?_
  refine ak (ok_aload_n (k := 0) rfl (by decide +kernel)) ?_
  refine ak (ok_iload_n (k := 2) rfl (by decide +kernel)) ?_
  refine ak (ok_put (k := 3) ck8 kd21 (by decide) (fun _ _ _ => rfl) rfl rfl (by decide) tw496 (by decide +kernel)) ?_
  refine ak (ok_aload_n (k := 0) rfl (by decide +kernel)) ?_
  refine ak (ok_iload_n (k := 3) rfl (by decide +kernel)) ?_
  refine ak (ok_put (k := 4) ck8 kd21 (by decide) (fun _ _ _ => rfl) rfl rfl (by decide) tw497 (by decide +kernel)) ?_
  refine ak (ok_aload_n (k := 0) rfl (by decide +kernel)) ?_
  refine ak (ok_iconst (n := 0) (by decide) (by decide +kernel)) ?_
  refine ak (ok_put (k := 1) ck8 kd21 (by decide) (fun _ _ _ => rfl) rfl rfl (by decide) tw493 (by decide +kernel)) ?_
  refine ak (ok_aload_n (k := 0) rfl (by decide +kernel)) ?_
  refine ak (ok_iload (by decide +kernel)) ?_
  refine ak (ok_iload (by decide +kernel)) ?_
  refine ak (ok_iconst (n := 0) (by decide) (by decide +kernel)) ?_
  refine ak (ok_invV (r := 21) (kxV_own hsd l) (qV_own xV_own) ck8 kd21 iV_own tw1137 tw33 (by decide) tw1135 (by decide +kernel)) ?_
  refine ak (ok_ireturn rfl (by decide +kernel)) ?_
  exact trivial
set_option maxRecDepth 1000000 in
theorem eV_speak (x1 : Int32) (x2 : Int32) (x3 : Int32) (x4 : Int32) (x5 : Int32) (M : Mem) : run (cV_speak) (fun _ _ _ _ => none) rtI 400 (seek (cV_speak) 0) [aR (21, 0, 0), aI x1, aI x2, aI x3, aI x4, aI x5] [] M = mV_speak x1 x2 x3 x4 x5 M := id rfl
theorem lV_speak {E : EV} {l : Launch} {p : Program} {e : Env} {s : State} {m : MethodId} {args : Array Value} {below : List Frame} {meth : Method} {c : Code} (A : AllOK E l 61 "FreeLances$Voices" prog_10_method_2_code 6 (some .int) outI (cV_speak)) (C : Cx E p s m args meth c "FreeLances$Voices" prog_10_method_2_code 6 (some .int)) : ∀ (x1 : Int32) (x2 : Int32) (x3 : Int32) (x4 : Int32) (x5 : Int32) (M : Mem) (res : (Int32 × Mem)), mV_speak x1 x2 x3 x4 x5 M = some res → Wm E p l e 61 s m args below meth c 6 0 [aR (21, 0, 0), aI x1, aI x2, aI x3, aI x4, aI x5] [] M (outI res).1 (outI res).2 := by
  intro x1 x2 x3 x4 x5 M res h
  refine run_at C A rfl hrtI (n := 400) ((eV_speak x1 x2 x3 x4 x5 M).trans h) ?_
  intro t als st M hk; cases hk
def dV_speak {β : Type} : Den β := fun as M k => match as with
  | [.inr (.inr (.inl (al0, bl0, cl0))), .inl x1, .inl x2, .inl x3, .inl x4, .inl x5] => if al0 = 21 ∧ bl0 = 0 ∧ cl0 = 0 then (mV_speak x1 x2 x3 x4 x5 M).bind fun q => k (aI q.1) q.2 else none
  | _ => none
theorem wV_speak {E : EV} (hsd : E.2.2.2 = 0) (l : Launch) (x1 : Int32) (x2 : Int32) (x3 : Int32) (x4 : Int32) (x5 : Int32) (M : Mem) (q : (Int32 × Mem)) (hq : mV_speak x1 x2 x3 x4 x5 M = some q) : Con E l 61 yV_speak prog_10_method_2_code 6 (some .int) [aR (21, 0, 0), aI x1, aI x2, aI x3, aI x4, aI x5] M (outI q).1 (outI q).2 := by
  refine con_of iV_speak (Nat.le_of_ble_eq_true rfl) ?_
  intro p e s m args below meth c C
  exact lV_speak (oV_speak hsd l) C x1 x2 x3 x4 x5 M _ hq
theorem kV_speak {E : EV} (hsd : E.2.2.2 = 0) (l : Launch) {β : Type} : DenOK E l 61 yV_speak prog_10_method_2_code 6 (some .int) true (dV_speak (β := β)) := by
  intro as M k res h
  unfold dV_speak at h
  split at h
  ·
    split at h
    · rename_i hc
      obtain ⟨rfl, rfl, rfl⟩ := hc
      obtain ⟨q, hq, hk⟩ := Option.bind_eq_some_iff.mp h
      exact ⟨aI q.1, q.2, hk, rfl, wV_speak hsd l _ _ _ _ _ M q hq⟩
    · cases h
  · cases h
theorem qV_speak {β : Type} : RecOK 21 (dV_speak (β := β)) := by
  intro as M k res h
  unfold dV_speak at h
  split at h
  ·
    split at h
    · rename_i hc
      obtain ⟨rfl, rfl, rfl⟩ := hc
      exact ⟨_, _, _, rfl⟩
    · cases h
  · cases h
/-! ===== FreeLances.voice(III)I ===== -/
abbrev yF_voice : MethodName := ⟨"FreeLances", "voice", "(III)I"⟩
theorem iF_voice : MI yF_voice prog_1_method_45_code 5 (some .int) 3 := ⟨tw1130, tw97, ⟨by decide, by decide⟩, by decide +kernel, by decide, by decide⟩
def cF_voice : List (Ent (Int32 × Mem)) := [(false, 0, 1, sLdA 0),
  (false, 1, 1, sLdI 1),
  (false, 2, 3, sInv 2 true dF_isBond),
  (false, 5, 3, sIfEq 17),
  (false, 8, 1, sLdI 2),
  (false, 9, 1, sC 0),
  (false, 10, 1, sC 3),
  (false, 11, 3, sInv 3 true dF_within),
  (false, 14, 3, sIfNe 23),
  (false, 17, 1, sLdA 0),
  (false, 18, 1, sC 1),
  (false, 19, 3, sInv 2 true dF_finding),
  (false, 22, 1, sRetI),
  (false, 23, 1, sLdA 0),
  (false, 24, 3, sGet 0 (fun w i M => aR (1, 0, 0))),
  (false, 27, 3, sGet 1 (fun w i M => aR (14, w, 0))),
  (false, 30, 1, sLdI 1),
  (false, 31, 1, sAald 14 24 15),
  (false, 32, 2, sStA 4),
  (false, 34, 1, sLdA 0),
  (false, 35, 3, sGet 0 (fun w i M => aR (21, 0, 0))),
  (false, 38, 2, sLdA 4),
  (false, 40, 3, sGet 15 (fun w i M => aI (M 15 w i 0))),
  (false, 43, 1, sLdI 1),
  (false, 44, 2, sLdA 4),
  (false, 46, 3, sGet 15 (fun w i M => aI (M 15 w i 4))),
  (false, 49, 1, sLdI 2),
  (false, 50, 1, sLdI 3),
  (false, 51, 3, sInv 6 true dV_speak),
  (false, 54, 1, sRetI)]
theorem oF_voice {E : EV} (hsd : E.2.2.2 = 0) (l : Launch) : AllOK E l 62 "FreeLances" prog_1_method_45_code 5 (some .int) outI (cF_voice) := by
  refine ak (ok_aload_n (k := 0) rfl (by decide +kernel)) ?_
  refine ak (ok_iload_n (k := 1) rfl (by decide +kernel)) ?_
  refine ak (ok_invV (r := 0) (kF_isBond hsd l) qF_isBond ck10 kd0 iF_isBond tw826 tw18 (by decide) tw824 (by decide +kernel)) ?_
  refine ak (ok_if_eq (off := 12) (by decide) (by decide +kernel)) ?_
  refine ak (ok_iload_n (k := 2) rfl (by decide +kernel)) ?_
  refine ak (ok_iconst (n := 0) (by decide) (by decide +kernel)) ?_
  refine ak (ok_iconst (n := 3) (by decide) (by decide +kernel)) ?_
  refine ak (ok_invS (kF_within hsd l) iF_within tw553 (by decide) tw552 (by decide +kernel)) ?_
  refine ak (ok_if_ne (off := 9) (by decide) (by decide +kernel)) ?_
  refine ak (ok_aload_n (k := 0) rfl (by decide +kernel)) ?_
  refine ak (ok_iconst (n := 1) (by decide) (by decide +kernel)) ?_
  refine ak (ok_invV (r := 0) (kF_finding hsd l) qF_finding ck10 kd0 iF_finding tw557 tw0 (by decide) tw555 (by decide +kernel)) ?_
  refine ak (ok_ireturn rfl (by decide +kernel)) ?_
  refine ak (ok_aload_n (k := 0) rfl (by decide +kernel)) ?_
  refine ak (ok_get (k := 0) ck10 kd0 (by decide) (fun _ _ _ => rfl) (vf_0_0 hsd) tw522 (by decide +kernel)) ?_
  refine ak (ok_get (k := 11) ck9 kd1 (by decide) (fun _ _ _ => rfl) (vf_1_11 hsd) tw411 (by decide +kernel)) ?_
  refine ak (ok_iload_n (k := 1) rfl (by decide +kernel)) ?_
  refine ak (ok_aald (t0 := 6) (C := RX0) kd14 (by decide) rfl (vr_14 hsd) (by decide +kernel)) ?_
  refine ak (ok_astore (by decide) (by decide +kernel)) ?_
  refine ak (ok_aload_n (k := 0) rfl (by decide +kernel)) ?_
  refine ak (ok_get (k := 4) ck10 kd0 (by decide) (fun _ _ _ => rfl) (vf_0_4 hsd) tw526 (by decide +kernel)) ?_
  refine ak (ok_aload (by decide +kernel)) ?_
  refine ak (ok_get (k := 0) ck0 kd15 (by decide) (fun _ _ _ => rfl) (fun _ _ _ _ _ => trivial) tw326 (by decide +kernel)) ?_
  refine ak (ok_iload_n (k := 1) rfl (by decide +kernel)) ?_
  refine ak (ok_aload (by decide +kernel)) ?_
  refine ak (ok_get (k := 4) ck0 kd15 (by decide) (fun _ _ _ => rfl) (fun _ _ _ _ _ => trivial) tw338 (by decide +kernel)) ?_
  refine ak (ok_iload_n (k := 2) rfl (by decide +kernel)) ?_
  refine ak (ok_iload_n (k := 3) rfl (by decide +kernel)) ?_
  refine ak (ok_invV (r := 21) (kV_speak hsd l) qV_speak ck8 kd21 iV_speak tw1132 tw1133 (by decide) tw1131 (by decide +kernel)) ?_
  refine ak (ok_ireturn rfl (by decide +kernel)) ?_
  exact trivial
set_option maxRecDepth 1000000 in
theorem eF_voice (x1 : Int32) (x2 : Int32) (x3 : Int32) (M : Mem) : run (cF_voice) (fun _ _ _ _ => none) rtI 400 (seek (cF_voice) 0) [aR (0, 0, 0), aI x1, aI x2, aI x3, aU] [] M = mF_voice x1 x2 x3 M := id rfl
theorem lF_voice {E : EV} {l : Launch} {p : Program} {e : Env} {s : State} {m : MethodId} {args : Array Value} {below : List Frame} {meth : Method} {c : Code} (A : AllOK E l 62 "FreeLances" prog_1_method_45_code 5 (some .int) outI (cF_voice)) (C : Cx E p s m args meth c "FreeLances" prog_1_method_45_code 5 (some .int)) : ∀ (x1 : Int32) (x2 : Int32) (x3 : Int32) (M : Mem) (res : (Int32 × Mem)), mF_voice x1 x2 x3 M = some res → Wm E p l e 62 s m args below meth c 5 0 [aR (0, 0, 0), aI x1, aI x2, aI x3, aU] [] M (outI res).1 (outI res).2 := by
  intro x1 x2 x3 M res h
  refine run_at C A rfl hrtI (n := 400) ((eF_voice x1 x2 x3 M).trans h) ?_
  intro t als st M hk; cases hk
def dF_voice {β : Type} : Den β := fun as M k => match as with
  | [.inr (.inr (.inl (al0, bl0, cl0))), .inl x1, .inl x2, .inl x3] => if al0 = 0 ∧ bl0 = 0 ∧ cl0 = 0 then (mF_voice x1 x2 x3 M).bind fun q => k (aI q.1) q.2 else none
  | _ => none
theorem wF_voice {E : EV} (hsd : E.2.2.2 = 0) (l : Launch) (x1 : Int32) (x2 : Int32) (x3 : Int32) (M : Mem) (q : (Int32 × Mem)) (hq : mF_voice x1 x2 x3 M = some q) : Con E l 62 yF_voice prog_1_method_45_code 5 (some .int) [aR (0, 0, 0), aI x1, aI x2, aI x3] M (outI q).1 (outI q).2 := by
  refine con_of iF_voice (Nat.le_of_ble_eq_true rfl) ?_
  intro p e s m args below meth c C
  exact lF_voice (oF_voice hsd l) C x1 x2 x3 M _ hq
theorem kF_voice {E : EV} (hsd : E.2.2.2 = 0) (l : Launch) {β : Type} : DenOK E l 62 yF_voice prog_1_method_45_code 5 (some .int) true (dF_voice (β := β)) := by
  intro as M k res h
  unfold dF_voice at h
  split at h
  ·
    split at h
    · rename_i hc
      obtain ⟨rfl, rfl, rfl⟩ := hc
      obtain ⟨q, hq, hk⟩ := Option.bind_eq_some_iff.mp h
      exact ⟨aI q.1, q.2, hk, rfl, wF_voice hsd l _ _ _ M q hq⟩
    · cases h
  · cases h
theorem qF_voice {β : Type} : RecOK 0 (dF_voice (β := β)) := by
  intro as M k res h
  unfold dF_voice at h
  split at h
  ·
    split at h
    · rename_i hc
      obtain ⟨rfl, rfl, rfl⟩ := hc
      exact ⟨_, _, _, rfl⟩
    · cases h
  · cases h
/-! ===== FreeLances.trace(I)I ===== -/
abbrev yF_trace : MethodName := ⟨"FreeLances", "trace", "(I)I"⟩
theorem iF_trace : MI yF_trace prog_1_method_46_code 2 (some .int) 1 := ⟨tw1157, tw97, ⟨by decide, by decide⟩, by decide +kernel, by decide, by decide⟩
def cF_trace : List (Ent (Int32 × Mem)) := [(false, 0, 1, sLdI 1),
  (false, 1, 1, sC 0),
  (false, 2, 1, sLdA 0),
  (false, 3, 3, sGet 0 (fun w i M => aR (21, 0, 0))),
  (false, 6, 3, sGet 21 (fun w i M => aI (M 21 w i 1))),
  (false, 9, 1, sC 1),
  (false, 10, 1, sBin (fun x y => x - y)),
  (false, 11, 3, sInv 3 true dF_within),
  (false, 14, 3, sIfEq 29),
  (false, 17, 1, sLdA 0),
  (false, 18, 3, sGet 0 (fun w i M => aR (21, 0, 0))),
  (false, 21, 3, sGet 21 (fun w i M => aR (22, 0, 0))),
  (false, 24, 1, sLdI 1),
  (false, 25, 1, sIald 22 40),
  (false, 26, 3, sGoto 34),
  (false, 29, 1, sLdA 0),
  (false, 30, 1, sC 2),
  (false, 31, 3, sInv 2 true dF_finding),
  (false, 34, 1, sRetI)]
theorem oF_trace {E : EV} (hsd : E.2.2.2 = 0) (l : Launch) : AllOK E l 2 "FreeLances" prog_1_method_46_code 2 (some .int) outI (cF_trace) := by
  refine ak (ok_iload_n (k := 1) rfl (by decide +kernel)) ?_
  refine ak (ok_iconst (n := 0) (by decide) (by decide +kernel)) ?_
  refine ak (ok_aload_n (k := 0) rfl (by decide +kernel)) ?_
  refine ak (ok_get (k := 4) ck10 kd0 (by decide) (fun _ _ _ => rfl) (vf_0_4 hsd) tw526 (by decide +kernel)) ?_
  refine ak (ok_get (k := 1) ck8 kd21 (by decide) (fun _ _ _ => rfl) (fun _ _ _ _ _ => trivial) tw494 (by decide +kernel)) ?_
  refine ak (ok_iconst (n := 1) (by decide) (by decide +kernel)) ?_
  refine ak (ok_isub (by decide +kernel)) ?_
  refine ak (ok_invS (kF_within hsd l) iF_within tw553 (by decide) tw552 (by decide +kernel)) ?_
  refine ak (ok_if_eq (off := 15) (by decide) (by decide +kernel)) ?_
  refine ak (ok_aload_n (k := 0) rfl (by decide +kernel)) ?_
  refine ak (ok_get (k := 4) ck10 kd0 (by decide) (fun _ _ _ => rfl) (vf_0_4 hsd) tw526 (by decide +kernel)) ?_
  refine ak (ok_get (k := 0) ck8 kd21 (by decide) (fun _ _ _ => rfl) (vf_21_0 hsd) tw492 (by decide +kernel)) ?_
  refine ak (ok_iload_n (k := 1) rfl (by decide +kernel)) ?_
  refine ak (ok_iald kd22 (by decide) (by decide +kernel)) ?_
  refine ak (ok_goto (off := 8) (by decide) (by decide +kernel)) ?_
  refine ak (ok_aload_n (k := 0) rfl (by decide +kernel)) ?_
  refine ak (ok_iconst (n := 2) (by decide) (by decide +kernel)) ?_
  refine ak (ok_invV (r := 0) (kF_finding hsd l) qF_finding ck10 kd0 iF_finding tw557 tw0 (by decide) tw555 (by decide +kernel)) ?_
  refine ak (ok_ireturn rfl (by decide +kernel)) ?_
  exact trivial
set_option maxRecDepth 1000000 in
theorem eF_trace (x1 : Int32) (M : Mem) : run (cF_trace) (fun _ _ _ _ => none) rtI 400 (seek (cF_trace) 0) [aR (0, 0, 0), aI x1] [] M = mF_trace x1 M := id rfl
theorem lF_trace {E : EV} {l : Launch} {p : Program} {e : Env} {s : State} {m : MethodId} {args : Array Value} {below : List Frame} {meth : Method} {c : Code} (A : AllOK E l 2 "FreeLances" prog_1_method_46_code 2 (some .int) outI (cF_trace)) (C : Cx E p s m args meth c "FreeLances" prog_1_method_46_code 2 (some .int)) : ∀ (x1 : Int32) (M : Mem) (res : (Int32 × Mem)), mF_trace x1 M = some res → Wm E p l e 2 s m args below meth c 2 0 [aR (0, 0, 0), aI x1] [] M (outI res).1 (outI res).2 := by
  intro x1 M res h
  refine run_at C A rfl hrtI (n := 400) ((eF_trace x1 M).trans h) ?_
  intro t als st M hk; cases hk
def dF_trace {β : Type} : Den β := fun as M k => match as with
  | [.inr (.inr (.inl (al0, bl0, cl0))), .inl x1] => if al0 = 0 ∧ bl0 = 0 ∧ cl0 = 0 then (mF_trace x1 M).bind fun q => k (aI q.1) q.2 else none
  | _ => none
theorem wF_trace {E : EV} (hsd : E.2.2.2 = 0) (l : Launch) (x1 : Int32) (M : Mem) (q : (Int32 × Mem)) (hq : mF_trace x1 M = some q) : Con E l 2 yF_trace prog_1_method_46_code 2 (some .int) [aR (0, 0, 0), aI x1] M (outI q).1 (outI q).2 := by
  refine con_of iF_trace (Nat.le_of_ble_eq_true rfl) ?_
  intro p e s m args below meth c C
  exact lF_trace (oF_trace hsd l) C x1 M _ hq
theorem kF_trace {E : EV} (hsd : E.2.2.2 = 0) (l : Launch) {β : Type} : DenOK E l 2 yF_trace prog_1_method_46_code 2 (some .int) true (dF_trace (β := β)) := by
  intro as M k res h
  unfold dF_trace at h
  split at h
  ·
    split at h
    · rename_i hc
      obtain ⟨rfl, rfl, rfl⟩ := hc
      obtain ⟨q, hq, hk⟩ := Option.bind_eq_some_iff.mp h
      exact ⟨aI q.1, q.2, hk, rfl, wF_trace hsd l _ M q hq⟩
    · cases h
  · cases h
theorem qF_trace {β : Type} : RecOK 0 (dF_trace (β := β)) := by
  intro as M k res h
  unfold dF_trace at h
  split at h
  ·
    split at h
    · rename_i hc
      obtain ⟨rfl, rfl, rfl⟩ := hc
      exact ⟨_, _, _, rfl⟩
    · cases h
  · cases h
/-! ===== FreeLances$Sheet.begin(II)V ===== -/
abbrev yS_begin : MethodName := ⟨"FreeLances$Sheet", "begin", "(II)V"⟩
theorem iS_begin : MI yS_begin prog_7_method_2_code 4 none 2 := ⟨tw1165, tw105, ⟨by decide, by decide⟩, by decide +kernel, by decide, by decide⟩
def cS_begin : List (Ent Mem) := [(false, 0, 1, sLdA 0),
  (false, 1, 1, sLdI 1),
  (false, 2, 3, sPut 19 0),
  (false, 5, 1, sLdA 0),
  (false, 6, 1, sLdI 2),
  (false, 7, 3, sPut 19 1),
  (false, 10, 1, sC 0),
  (false, 11, 1, sStI 3),
  (true, 12, 1, sLdI 3),
  (false, 13, 2, sC 24),
  (false, 15, 3, sCmpGe 31),
  (false, 18, 1, sLdA 0),
  (false, 19, 3, sGet 19 (fun w i M => aR (20, w, i))),
  (false, 22, 1, sLdI 3),
  (false, 23, 1, sC 0),
  (false, 24, 1, sIast 20 24),
  (false, 25, 3, sInc 3 1),
  (false, 28, 3, sGoto 12),
  (false, 31, 1, sRetV)]
theorem oS_begin {E : EV} (hsd : E.2.2.2 = 0) (l : Launch) : AllOK E l 1 "FreeLances$Sheet" prog_7_method_2_code 4 none outV (cS_begin) := by
  refine ak (ok_aload_n (k := 0) rfl (by decide +kernel)) ?_
  refine ak (ok_iload_n (k := 1) rfl (by decide +kernel)) ?_
  refine ak (ok_put (k := 0) ck5 kd19 (by decide) (fun _ _ _ => rfl) rfl rfl (by decide) tw468 (by decide +kernel)) ?_
  refine ak (ok_aload_n (k := 0) rfl (by decide +kernel)) ?_
  refine ak (ok_iload_n (k := 2) rfl (by decide +kernel)) ?_
  refine ak (ok_put (k := 1) ck5 kd19 (by decide) (fun _ _ _ => rfl) rfl rfl (by decide) tw470 (by decide +kernel)) ?_
  refine ak (ok_iconst (n := 0) (by decide) (by decide +kernel)) ?_
  refine ak (ok_istore_n (k := 3) rfl (by decide) (by decide +kernel)) ?_
  refine ak (ok_iload_n (k := 3) rfl (by decide +kernel)) ?_
  refine ak (ok_bipush (n := 24) (by decide) (by decide +kernel)) ?_
  refine ak (ok_icmp_ge (off := 16) (by decide) (by decide +kernel)) ?_
  refine ak (ok_aload_n (k := 0) rfl (by decide +kernel)) ?_
  refine ak (ok_get (k := 2) ck5 kd19 (by decide) (fun _ _ _ => rfl) (vf_19_2 hsd) tw474 (by decide +kernel)) ?_
  refine ak (ok_iload_n (k := 3) rfl (by decide +kernel)) ?_
  refine ak (ok_iconst (n := 0) (by decide) (by decide +kernel)) ?_
  refine ak (ok_iast kd20 (by decide) (by decide) (by decide +kernel)) ?_
  refine ak (ok_iinc (n := 1) (by decide) (by decide) (by decide +kernel)) ?_
  refine ak (ok_goto (off := (-16)) (by decide) (by decide +kernel)) ?_
  refine ak (ok_return rfl (by decide +kernel)) ?_
  exact trivial
def KS_begin_12 (j12 : Nat → Int32 → Mem → Option Mem) : Jm Mem := fun t als st M =>
  if t = 12 then (match als, st with
  | [.inr (.inr (.inl (al0, bl0, i0))), _, _, .inl x3], [] => if al0 = 19 ∧ bl0 = 0 then j12 i0 x3 M else none
  | _, _ => none) else
  none
set_option maxRecDepth 1000000 in
theorem eS_begin_12 (j12 : Nat → Int32 → Mem → Option Mem) (i0 : Nat) (x3 : Int32) (M : Mem) (u1 u2 : AV) : run (cS_begin) (KS_begin_12 j12) rtV 400 (seek (cS_begin) 12) [aR (19, 0, i0), u1, u2, aI x3] [] M = mS_begin_12b j12 i0 x3 M := id rfl
theorem lS_begin_12 {E : EV} {l : Launch} {p : Program} {e : Env} {s : State} {m : MethodId} {args : Array Value} {below : List Frame} {meth : Method} {c : Code} (A : AllOK E l 1 "FreeLances$Sheet" prog_7_method_2_code 4 none outV (cS_begin)) (C : Cx E p s m args meth c "FreeLances$Sheet" prog_7_method_2_code 4 none) : ∀ (n : Nat), ∀ (i0 : Nat) (x3 : Int32) (M : Mem) (res : Mem), mS_begin_12 n i0 x3 M = some res → ∀ (u1 u2 : AV), Wm E p l e 1 s m args below meth c 4 12 [aR (19, 0, i0), u1, u2, aI x3] [] M (outV res).1 (outV res).2 := by
  intro n
  induction n with
  | zero => intro _ _ M res h; cases h
  | succ n ih =>
    intro i0 x3 M res h u1 u2
    refine run_at C A rfl hrtV (n := 400) ((eS_begin_12 (mS_begin_12 n) i0 x3 M u1 u2).trans h) ?_
    intro t als st M hk
    unfold KS_begin_12 at hk
    split at hk
    · rename_i ht
      subst ht
      split at hk
      · split at hk
        · rename_i hc
          obtain ⟨rfl, rfl⟩ := hc
          exact ih _ _ _ _ hk _ _
        · cases hk
      · cases hk
    cases hk
def KS_begin (j12 : Nat → Int32 → Mem → Option Mem) : Jm Mem := fun t als st M =>
  if t = 12 then (match als, st with
  | [.inr (.inr (.inl (al0, bl0, i0))), _, _, .inl x3], [] => if al0 = 19 ∧ bl0 = 0 then j12 i0 x3 M else none
  | _, _ => none) else
  none
set_option maxRecDepth 1000000 in
theorem eS_begin (j12 : Nat → Int32 → Mem → Option Mem) (i0 : Nat) (x1 : Int32) (x2 : Int32) (M : Mem) : run (cS_begin) (KS_begin j12) rtV 400 (seek (cS_begin) 0) [aR (19, 0, i0), aI x1, aI x2, aU] [] M = mS_beginb j12 i0 x1 x2 M := id rfl
theorem lS_begin {E : EV} {l : Launch} {p : Program} {e : Env} {s : State} {m : MethodId} {args : Array Value} {below : List Frame} {meth : Method} {c : Code} (A : AllOK E l 1 "FreeLances$Sheet" prog_7_method_2_code 4 none outV (cS_begin)) (C : Cx E p s m args meth c "FreeLances$Sheet" prog_7_method_2_code 4 none) : ∀ (i0 : Nat) (x1 : Int32) (x2 : Int32) (M : Mem) (res : Mem), mS_begin i0 x1 x2 M = some res → Wm E p l e 1 s m args below meth c 4 0 [aR (19, 0, i0), aI x1, aI x2, aU] [] M (outV res).1 (outV res).2 := by
  intro i0 x1 x2 M res h
  refine run_at C A rfl hrtV (n := 400) ((eS_begin (mS_begin_12 fuel) i0 x1 x2 M).trans h) ?_
  intro t als st M hk
  unfold KS_begin at hk
  split at hk
  · rename_i ht
    subst ht
    split at hk
    · split at hk
      · rename_i hc
        obtain ⟨rfl, rfl⟩ := hc
        exact lS_begin_12 A C _ _ _ _ _ hk _ _
      · cases hk
    · cases hk
  cases hk
def dS_begin {β : Type} : Den β := fun as M k => match as with
  | [.inr (.inr (.inl (al0, bl0, i0))), .inl x1, .inl x2] => if al0 = 19 ∧ bl0 = 0 then (mS_begin i0 x1 x2 M).bind fun q => k aU q else none
  | _ => none
theorem wS_begin {E : EV} (hsd : E.2.2.2 = 0) (l : Launch) (i0 : Nat) (x1 : Int32) (x2 : Int32) (M : Mem) (q : Mem) (hq : mS_begin i0 x1 x2 M = some q) : Con E l 1 yS_begin prog_7_method_2_code 4 none [aR (19, 0, i0), aI x1, aI x2] M (outV q).1 (outV q).2 := by
  refine con_of iS_begin (Nat.le_of_ble_eq_true rfl) ?_
  intro p e s m args below meth c C
  exact lS_begin (oS_begin hsd l) C i0 x1 x2 M _ hq
theorem kS_begin {E : EV} (hsd : E.2.2.2 = 0) (l : Launch) {β : Type} : DenOK E l 1 yS_begin prog_7_method_2_code 4 none false (dS_begin (β := β)) := by
  intro as M k res h
  unfold dS_begin at h
  split at h
  ·
    split at h
    · rename_i hc
      obtain ⟨rfl, rfl⟩ := hc
      obtain ⟨q, hq, hk⟩ := Option.bind_eq_some_iff.mp h
      exact ⟨aU, q, hk, rfl, wS_begin hsd l _ _ _ M q hq⟩
    · cases h
  · cases h
theorem qS_begin {β : Type} : RecOK 19 (dS_begin (β := β)) := by
  intro as M k res h
  unfold dS_begin at h
  split at h
  ·
    split at h
    · rename_i hc
      obtain ⟨rfl, rfl⟩ := hc
      exact ⟨_, _, _, rfl⟩
    · cases h
  · cases h
/-! ===== FreeLances.sheet(III)I ===== -/
abbrev yF_sheet : MethodName := ⟨"FreeLances", "sheet", "(III)I"⟩
theorem iF_sheet : MI yF_sheet prog_1_method_47_code 4 (some .int) 3 := ⟨tw1161, tw97, ⟨by decide, by decide⟩, by decide +kernel, by decide, by decide⟩
def cF_sheet : List (Ent (Int32 × Mem)) := [(false, 0, 1, sLdI 1),
  (false, 1, 3, sInv 1 true dF_isSheet),
  (false, 4, 3, sIfEq 29),
  (false, 7, 1, sLdI 2),
  (false, 8, 3, sIfEq 35),
  (false, 11, 1, sLdI 2),
  (false, 12, 2, sC 8),
  (false, 14, 3, sCmpEq 35),
  (false, 17, 1, sLdI 2),
  (false, 18, 2, sC 16),
  (false, 20, 3, sCmpEq 35),
  (false, 23, 1, sLdI 2),
  (false, 24, 2, sC 32),
  (false, 26, 3, sCmpEq 35),
  (false, 29, 1, sLdA 0),
  (false, 30, 1, sC 1),
  (false, 31, 3, sInv 2 true dF_finding),
  (false, 34, 1, sRetI),
  (false, 35, 1, sLdI 2),
  (false, 36, 3, sIfEq 49),
  (false, 39, 1, sLdI 3),
  (false, 40, 3, sIfGe 49),
  (false, 43, 1, sLdA 0),
  (false, 44, 1, sC 3),
  (false, 45, 3, sInv 2 true dF_finding),
  (false, 48, 1, sRetI),
  (true, 49, 1, sLdI 2),
  (false, 50, 3, sIfEq 65),
  (false, 53, 1, sLdI 3),
  (false, 54, 2, sC 24),
  (false, 56, 3, sCmpLe 65),
  (false, 59, 1, sLdA 0),
  (false, 60, 1, sC 1),
  (false, 61, 3, sInv 2 true dF_finding),
  (false, 64, 1, sRetI),
  (false, 65, 1, sLdA 0),
  (false, 66, 3, sGet 0 (fun w i M => aR (18, 0, 0))),
  (false, 69, 1, sLdI 1),
  (false, 70, 1, sAald 18 4 19),
  (false, 71, 1, sLdI 2),
  (false, 72, 1, sLdI 2),
  (false, 73, 3, sIfNe 80),
  (false, 76, 1, sC 0),
  (false, 77, 3, sGoto 81),
  (false, 80, 1, sLdI 3),
  (false, 81, 3, sInv 3 false dS_begin),
  (false, 84, 1, sC 1),
  (false, 85, 1, sRetI)]
theorem oF_sheet {E : EV} (hsd : E.2.2.2 = 0) (l : Launch) : AllOK E l 3 "FreeLances" prog_1_method_47_code 4 (some .int) outI (cF_sheet) := by
  refine ak (ok_iload_n (k := 1) rfl (by decide +kernel)) ?_
  refine ak (ok_invS (kF_isSheet hsd l) iF_isSheet tw916 (by decide) tw915 (by decide +kernel)) ?_
  refine ak (ok_if_eq (off := 25) (by decide) (by decide +kernel)) ?_
  refine ak (ok_iload_n (k := 2) rfl (by decide +kernel)) ?_
  refine ak (ok_if_eq (off := 27) (by decide) (by decide +kernel)) ?_
  refine ak (ok_iload_n (k := 2) rfl (by decide +kernel)) ?_
  refine ak (ok_bipush (n := 8) (by decide) (by decide +kernel)) ?_
  refine ak (ok_icmp_eq (off := 21) (by decide) (by decide +kernel)) ?_
  refine ak (ok_iload_n (k := 2) rfl (by decide +kernel)) ?_
  refine ak (ok_bipush (n := 16) (by decide) (by decide +kernel)) ?_
  refine ak (ok_icmp_eq (off := 15) (by decide) (by decide +kernel)) ?_
  refine ak (ok_iload_n (k := 2) rfl (by decide +kernel)) ?_
  refine ak (ok_bipush (n := 32) (by decide) (by decide +kernel)) ?_
  refine ak (ok_icmp_eq (off := 9) (by decide) (by decide +kernel)) ?_
  refine ak (ok_aload_n (k := 0) rfl (by decide +kernel)) ?_
  refine ak (ok_iconst (n := 1) (by decide) (by decide +kernel)) ?_
  refine ak (ok_invV (r := 0) (kF_finding hsd l) qF_finding ck10 kd0 iF_finding tw557 tw0 (by decide) tw555 (by decide +kernel)) ?_
  refine ak (ok_ireturn rfl (by decide +kernel)) ?_
  refine ak (ok_iload_n (k := 2) rfl (by decide +kernel)) ?_
  refine ak (ok_if_eq (off := 13) (by decide) (by decide +kernel)) ?_
  refine ak (ok_iload_n (k := 3) rfl (by decide +kernel)) ?_
  refine ak (ok_if_ge (off := 9) (by decide) (by decide +kernel)) ?_
  refine ak (ok_aload_n (k := 0) rfl (by decide +kernel)) ?_
  refine ak (ok_iconst (n := 3) (by decide) (by decide +kernel)) ?_
  refine ak (ok_invV (r := 0) (kF_finding hsd l) qF_finding ck10 kd0 iF_finding tw557 tw0 (by decide) tw555 (by decide +kernel)) ?_
  refine ak (ok_ireturn rfl (by decide +kernel)) ?_
  refine ak (ok_iload_n (k := 2) rfl (by decide +kernel)) ?_
  refine ak (ok_if_eq (off := 15) (by decide) (by decide +kernel)) ?_
  refine ak (ok_iload_n (k := 3) rfl (by decide +kernel)) ?_
  refine ak (ok_bipush (n := 24) (by decide) (by decide +kernel)) ?_
  refine ak (ok_icmp_le (off := 9) (by decide) (by decide +kernel)) ?_
  refine ak (ok_aload_n (k := 0) rfl (by decide +kernel)) ?_
  refine ak (ok_iconst (n := 1) (by decide) (by decide +kernel)) ?_
  refine ak (ok_invV (r := 0) (kF_finding hsd l) qF_finding ck10 kd0 iF_finding tw557 tw0 (by decide) tw555 (by decide +kernel)) ?_
  refine ak (ok_ireturn rfl (by decide +kernel)) ?_
  refine ak (ok_aload_n (k := 0) rfl (by decide +kernel)) ?_
  refine ak (ok_get (k := 3) ck10 kd0 (by decide) (fun _ _ _ => rfl) (vf_0_3 hsd) tw525 (by decide +kernel)) ?_
  refine ak (ok_iload_n (k := 1) rfl (by decide +kernel)) ?_
  refine ak (ok_aald (t0 := 7) (C := RX5) kd18 (by decide) rfl (vr_18 hsd) (by decide +kernel)) ?_
  refine ak (ok_iload_n (k := 2) rfl (by decide +kernel)) ?_
  refine ak (ok_iload_n (k := 2) rfl (by decide +kernel)) ?_
  refine ak (ok_if_ne (off := 7) (by decide) (by decide +kernel)) ?_
  refine ak (ok_iconst (n := 0) (by decide) (by decide +kernel)) ?_
  refine ak (ok_goto (off := 4) (by decide) (by decide +kernel)) ?_
  refine ak (ok_iload_n (k := 3) rfl (by decide +kernel)) ?_
  refine ak (ok_invV (r := 19) (kS_begin hsd l) qS_begin ck5 kd19 iS_begin tw1163 tw1164 (by decide) tw1162 (by decide +kernel)) ?_
  refine ak (ok_iconst (n := 1) (by decide) (by decide +kernel)) ?_
  refine ak (ok_ireturn rfl (by decide +kernel)) ?_
  exact trivial
set_option maxRecDepth 1000000 in
theorem eF_sheet_49 (x1 : Int32) (x2 : Int32) (x3 : Int32) (M : Mem) : run (cF_sheet) (fun _ _ _ _ => none) rtI 400 (seek (cF_sheet) 49) [aR (0, 0, 0), aI x1, aI x2, aI x3] [] M = mF_sheet_49b x1 x2 x3 M := id rfl
theorem lF_sheet_49 {E : EV} {l : Launch} {p : Program} {e : Env} {s : State} {m : MethodId} {args : Array Value} {below : List Frame} {meth : Method} {c : Code} (A : AllOK E l 3 "FreeLances" prog_1_method_47_code 4 (some .int) outI (cF_sheet)) (C : Cx E p s m args meth c "FreeLances" prog_1_method_47_code 4 (some .int)) : ∀ (x1 : Int32) (x2 : Int32) (x3 : Int32) (M : Mem) (res : (Int32 × Mem)), mF_sheet_49 x1 x2 x3 M = some res → Wm E p l e 3 s m args below meth c 4 49 [aR (0, 0, 0), aI x1, aI x2, aI x3] [] M (outI res).1 (outI res).2 := by
  intro x1 x2 x3 M res h
  refine run_at C A rfl hrtI (n := 400) ((eF_sheet_49 x1 x2 x3 M).trans h) ?_
  intro t als st M hk; cases hk
def KF_sheet (j49 : Int32 → Int32 → Int32 → Mem → Option (Int32 × Mem)) : Jm (Int32 × Mem) := fun t als st M =>
  if t = 49 then (match als, st with
  | [.inr (.inr (.inl (al0, bl0, cl0))), .inl x1, .inl x2, .inl x3], [] => if al0 = 0 ∧ bl0 = 0 ∧ cl0 = 0 then j49 x1 x2 x3 M else none
  | _, _ => none) else
  none
set_option maxRecDepth 1000000 in
theorem eF_sheet (j49 : Int32 → Int32 → Int32 → Mem → Option (Int32 × Mem)) (x1 : Int32) (x2 : Int32) (x3 : Int32) (M : Mem) : run (cF_sheet) (KF_sheet j49) rtI 400 (seek (cF_sheet) 0) [aR (0, 0, 0), aI x1, aI x2, aI x3] [] M = mF_sheetb j49 x1 x2 x3 M := id rfl
theorem lF_sheet {E : EV} {l : Launch} {p : Program} {e : Env} {s : State} {m : MethodId} {args : Array Value} {below : List Frame} {meth : Method} {c : Code} (A : AllOK E l 3 "FreeLances" prog_1_method_47_code 4 (some .int) outI (cF_sheet)) (C : Cx E p s m args meth c "FreeLances" prog_1_method_47_code 4 (some .int)) : ∀ (x1 : Int32) (x2 : Int32) (x3 : Int32) (M : Mem) (res : (Int32 × Mem)), mF_sheet x1 x2 x3 M = some res → Wm E p l e 3 s m args below meth c 4 0 [aR (0, 0, 0), aI x1, aI x2, aI x3] [] M (outI res).1 (outI res).2 := by
  intro x1 x2 x3 M res h
  refine run_at C A rfl hrtI (n := 400) ((eF_sheet mF_sheet_49 x1 x2 x3 M).trans h) ?_
  intro t als st M hk
  unfold KF_sheet at hk
  split at hk
  · rename_i ht
    subst ht
    split at hk
    · split at hk
      · rename_i hc
        obtain ⟨rfl, rfl, rfl⟩ := hc
        exact lF_sheet_49 A C _ _ _ _ _ hk
      · cases hk
    · cases hk
  cases hk
def dF_sheet {β : Type} : Den β := fun as M k => match as with
  | [.inr (.inr (.inl (al0, bl0, cl0))), .inl x1, .inl x2, .inl x3] => if al0 = 0 ∧ bl0 = 0 ∧ cl0 = 0 then (mF_sheet x1 x2 x3 M).bind fun q => k (aI q.1) q.2 else none
  | _ => none
theorem wF_sheet {E : EV} (hsd : E.2.2.2 = 0) (l : Launch) (x1 : Int32) (x2 : Int32) (x3 : Int32) (M : Mem) (q : (Int32 × Mem)) (hq : mF_sheet x1 x2 x3 M = some q) : Con E l 3 yF_sheet prog_1_method_47_code 4 (some .int) [aR (0, 0, 0), aI x1, aI x2, aI x3] M (outI q).1 (outI q).2 := by
  refine con_of iF_sheet (Nat.le_of_ble_eq_true rfl) ?_
  intro p e s m args below meth c C
  exact lF_sheet (oF_sheet hsd l) C x1 x2 x3 M _ hq
theorem kF_sheet {E : EV} (hsd : E.2.2.2 = 0) (l : Launch) {β : Type} : DenOK E l 3 yF_sheet prog_1_method_47_code 4 (some .int) true (dF_sheet (β := β)) := by
  intro as M k res h
  unfold dF_sheet at h
  split at h
  ·
    split at h
    · rename_i hc
      obtain ⟨rfl, rfl, rfl⟩ := hc
      obtain ⟨q, hq, hk⟩ := Option.bind_eq_some_iff.mp h
      exact ⟨aI q.1, q.2, hk, rfl, wF_sheet hsd l _ _ _ M q hq⟩
    · cases h
  · cases h
theorem qF_sheet {β : Type} : RecOK 0 (dF_sheet (β := β)) := by
  intro as M k res h
  unfold dF_sheet at h
  split at h
  ·
    split at h
    · rename_i hc
      obtain ⟨rfl, rfl, rfl⟩ := hc
      exact ⟨_, _, _, rfl⟩
    · cases h
  · cases h
/-! ===== FreeLances$Sheet.cut(I)I ===== -/
abbrev yS_cut : MethodName := ⟨"FreeLances$Sheet", "cut", "(I)I"⟩
theorem iS_cut : MI yS_cut prog_7_method_4_code 2 (some .int) 1 := ⟨tw1173, tw105, ⟨by decide, by decide⟩, by decide +kernel, by decide, by decide⟩
def cS_cut : List (Ent (Int32 × Mem)) := [(false, 0, 1, sLdA 0),
  (false, 1, 3, sGet 19 (fun w i M => aI (M 19 w i 0))),
  (false, 4, 2, sC 8),
  (false, 6, 3, sCmpNe 14),
  (false, 9, 1, sLdI 1),
  (false, 10, 1, sUn (fun x => x.toInt8.toInt32)),
  (false, 11, 3, sGoto 29),
  (false, 14, 1, sLdA 0),
  (false, 15, 3, sGet 19 (fun w i M => aI (M 19 w i 0))),
  (false, 18, 2, sC 16),
  (false, 20, 3, sCmpNe 28),
  (false, 23, 1, sLdI 1),
  (false, 24, 1, sUn (fun x => x.toInt16.toInt32)),
  (false, 25, 3, sGoto 29),
  (false, 28, 1, sLdI 1),
  (false, 29, 1, sRetI)]
theorem oS_cut {E : EV} (hsd : E.2.2.2 = 0) (l : Launch) : AllOK E l 1 "FreeLances$Sheet" prog_7_method_4_code 2 (some .int) outI (cS_cut) := by
  refine ak (ok_aload_n (k := 0) rfl (by decide +kernel)) ?_
  refine ak (ok_get (k := 0) ck5 kd19 (by decide) (fun _ _ _ => rfl) (fun _ _ _ _ _ => trivial) tw468 (by decide +kernel)) ?_
  refine ak (ok_bipush (n := 8) (by decide) (by decide +kernel)) ?_
  refine ak (ok_icmp_ne (off := 8) (by decide) (by decide +kernel)) ?_
  refine ak (ok_iload_n (k := 1) rfl (by decide +kernel)) ?_
  refine ak (ok_i2b (by decide +kernel)) ?_
  refine ak (ok_goto (off := 18) (by decide) (by decide +kernel)) ?_
  refine ak (ok_aload_n (k := 0) rfl (by decide +kernel)) ?_
  refine ak (ok_get (k := 0) ck5 kd19 (by decide) (fun _ _ _ => rfl) (fun _ _ _ _ _ => trivial) tw468 (by decide +kernel)) ?_
  refine ak (ok_bipush (n := 16) (by decide) (by decide +kernel)) ?_
  refine ak (ok_icmp_ne (off := 8) (by decide) (by decide +kernel)) ?_
  refine ak (ok_iload_n (k := 1) rfl (by decide +kernel)) ?_
  refine ak (ok_i2s (by decide +kernel)) ?_
  refine ak (ok_goto (off := 4) (by decide) (by decide +kernel)) ?_
  refine ak (ok_iload_n (k := 1) rfl (by decide +kernel)) ?_
  refine ak (ok_ireturn rfl (by decide +kernel)) ?_
  exact trivial
set_option maxRecDepth 1000000 in
theorem eS_cut (i0 : Nat) (x1 : Int32) (M : Mem) : run (cS_cut) (fun _ _ _ _ => none) rtI 400 (seek (cS_cut) 0) [aR (19, 0, i0), aI x1] [] M = mS_cut i0 x1 M := id rfl
theorem lS_cut {E : EV} {l : Launch} {p : Program} {e : Env} {s : State} {m : MethodId} {args : Array Value} {below : List Frame} {meth : Method} {c : Code} (A : AllOK E l 1 "FreeLances$Sheet" prog_7_method_4_code 2 (some .int) outI (cS_cut)) (C : Cx E p s m args meth c "FreeLances$Sheet" prog_7_method_4_code 2 (some .int)) : ∀ (i0 : Nat) (x1 : Int32) (M : Mem) (res : (Int32 × Mem)), mS_cut i0 x1 M = some res → Wm E p l e 1 s m args below meth c 2 0 [aR (19, 0, i0), aI x1] [] M (outI res).1 (outI res).2 := by
  intro i0 x1 M res h
  refine run_at C A rfl hrtI (n := 400) ((eS_cut i0 x1 M).trans h) ?_
  intro t als st M hk; cases hk
def dS_cut {β : Type} : Den β := fun as M k => match as with
  | [.inr (.inr (.inl (al0, bl0, i0))), .inl x1] => if al0 = 19 ∧ bl0 = 0 then (mS_cut i0 x1 M).bind fun q => k (aI q.1) q.2 else none
  | _ => none
theorem wS_cut {E : EV} (hsd : E.2.2.2 = 0) (l : Launch) (i0 : Nat) (x1 : Int32) (M : Mem) (q : (Int32 × Mem)) (hq : mS_cut i0 x1 M = some q) : Con E l 1 yS_cut prog_7_method_4_code 2 (some .int) [aR (19, 0, i0), aI x1] M (outI q).1 (outI q).2 := by
  refine con_of iS_cut (Nat.le_of_ble_eq_true rfl) ?_
  intro p e s m args below meth c C
  exact lS_cut (oS_cut hsd l) C i0 x1 M _ hq
theorem kS_cut {E : EV} (hsd : E.2.2.2 = 0) (l : Launch) {β : Type} : DenOK E l 1 yS_cut prog_7_method_4_code 2 (some .int) true (dS_cut (β := β)) := by
  intro as M k res h
  unfold dS_cut at h
  split at h
  ·
    split at h
    · rename_i hc
      obtain ⟨rfl, rfl⟩ := hc
      obtain ⟨q, hq, hk⟩ := Option.bind_eq_some_iff.mp h
      exact ⟨aI q.1, q.2, hk, rfl, wS_cut hsd l _ _ M q hq⟩
    · cases h
  · cases h
theorem qS_cut {β : Type} : RecOK 19 (dS_cut (β := β)) := by
  intro as M k res h
  unfold dS_cut at h
  split at h
  ·
    split at h
    · rename_i hc
      obtain ⟨rfl, rfl⟩ := hc
      exact ⟨_, _, _, rfl⟩
    · cases h
  · cases h
/-! ===== FreeLances.put(III)I ===== -/
abbrev yF_put : MethodName := ⟨"FreeLances", "put", "(III)I"⟩
theorem iF_put : MI yF_put prog_1_method_48_code 5 (some .int) 3 := ⟨tw1169, tw97, ⟨by decide, by decide⟩, by decide +kernel, by decide, by decide⟩
def cF_put : List (Ent (Int32 × Mem)) := [(false, 0, 1, sLdI 1),
  (false, 1, 3, sInv 1 true dF_isSheet),
  (false, 4, 3, sIfNe 13),
  (false, 7, 1, sLdA 0),
  (false, 8, 1, sC 1),
  (false, 9, 3, sInv 2 true dF_finding),
  (false, 12, 1, sRetI),
  (false, 13, 1, sLdA 0),
  (false, 14, 3, sGet 0 (fun w i M => aR (18, 0, 0))),
  (false, 17, 1, sLdI 1),
  (false, 18, 1, sAald 18 4 19),
  (false, 19, 2, sStA 4),
  (false, 21, 2, sLdA 4),
  (false, 23, 3, sInv 1 true dS_missing),
  (false, 26, 3, sIfEq 35),
  (false, 29, 1, sLdA 0),
  (false, 30, 1, sC 2),
  (false, 31, 3, sInv 2 true dF_finding),
  (false, 34, 1, sRetI),
  (false, 35, 1, sLdI 2),
  (false, 36, 1, sC 0),
  (false, 37, 2, sLdA 4),
  (false, 39, 3, sGet 19 (fun w i M => aI (M 19 w i 1))),
  (false, 42, 1, sC 1),
  (false, 43, 1, sBin (fun x y => x - y)),
  (false, 44, 3, sInv 3 true dF_within),
  (false, 47, 3, sIfNe 56),
  (false, 50, 1, sLdA 0),
  (false, 51, 1, sC 1),
  (false, 52, 3, sInv 2 true dF_finding),
  (false, 55, 1, sRetI),
  (false, 56, 2, sLdA 4),
  (false, 58, 3, sGet 19 (fun w i M => aR (20, w, i))),
  (false, 61, 1, sLdI 2),
  (false, 62, 2, sLdA 4),
  (false, 64, 1, sLdI 3),
  (false, 65, 3, sInv 2 true dS_cut),
  (false, 68, 1, sIast 20 24),
  (false, 69, 1, sC 1),
  (false, 70, 1, sRetI)]
theorem oF_put {E : EV} (hsd : E.2.2.2 = 0) (l : Launch) : AllOK E l 3 "FreeLances" prog_1_method_48_code 5 (some .int) outI (cF_put) := by
  refine ak (ok_iload_n (k := 1) rfl (by decide +kernel)) ?_
  refine ak (ok_invS (kF_isSheet hsd l) iF_isSheet tw916 (by decide) tw915 (by decide +kernel)) ?_
  refine ak (ok_if_ne (off := 9) (by decide) (by decide +kernel)) ?_
  refine ak (ok_aload_n (k := 0) rfl (by decide +kernel)) ?_
  refine ak (ok_iconst (n := 1) (by decide) (by decide +kernel)) ?_
  refine ak (ok_invV (r := 0) (kF_finding hsd l) qF_finding ck10 kd0 iF_finding tw557 tw0 (by decide) tw555 (by decide +kernel)) ?_
  refine ak (ok_ireturn rfl (by decide +kernel)) ?_
  refine ak (ok_aload_n (k := 0) rfl (by decide +kernel)) ?_
  refine ak (ok_get (k := 3) ck10 kd0 (by decide) (fun _ _ _ => rfl) (vf_0_3 hsd) tw525 (by decide +kernel)) ?_
  refine ak (ok_iload_n (k := 1) rfl (by decide +kernel)) ?_
  refine ak (ok_aald (t0 := 7) (C := RX5) kd18 (by decide) rfl (vr_18 hsd) (by decide +kernel)) ?_
  refine ak (ok_astore (by decide) (by decide +kernel)) ?_
  refine ak (ok_aload (by decide +kernel)) ?_
  refine ak (ok_invV (r := 19) (kS_missing hsd l) qS_missing ck5 kd19 iS_missing tw919 tw920 (by decide) tw918 (by decide +kernel)) ?_
  refine ak (ok_if_eq (off := 9) (by decide) (by decide +kernel)) ?_
  refine ak (ok_aload_n (k := 0) rfl (by decide +kernel)) ?_
  refine ak (ok_iconst (n := 2) (by decide) (by decide +kernel)) ?_
  refine ak (ok_invV (r := 0) (kF_finding hsd l) qF_finding ck10 kd0 iF_finding tw557 tw0 (by decide) tw555 (by decide +kernel)) ?_
  refine ak (ok_ireturn rfl (by decide +kernel)) ?_
  refine ak (ok_iload_n (k := 2) rfl (by decide +kernel)) ?_
  refine ak (ok_iconst (n := 0) (by decide) (by decide +kernel)) ?_
  refine ak (ok_aload (by decide +kernel)) ?_
  refine ak (ok_get (k := 1) ck5 kd19 (by decide) (fun _ _ _ => rfl) (fun _ _ _ _ _ => trivial) tw473 (by decide +kernel)) ?_
  refine ak (ok_iconst (n := 1) (by decide) (by decide +kernel)) ?_
  refine ak (ok_isub (by decide +kernel)) ?_
  refine ak (ok_invS (kF_within hsd l) iF_within tw553 (by decide) tw552 (by decide +kernel)) ?_
  refine ak (ok_if_ne (off := 9) (by decide) (by decide +kernel)) ?_
  refine ak (ok_aload_n (k := 0) rfl (by decide +kernel)) ?_
  refine ak (ok_iconst (n := 1) (by decide) (by decide +kernel)) ?_
  refine ak (ok_invV (r := 0) (kF_finding hsd l) qF_finding ck10 kd0 iF_finding tw557 tw0 (by decide) tw555 (by decide +kernel)) ?_
  refine ak (ok_ireturn rfl (by decide +kernel)) ?_
  refine ak (ok_aload (by decide +kernel)) ?_
  refine ak (ok_get (k := 2) ck5 kd19 (by decide) (fun _ _ _ => rfl) (vf_19_2 hsd) tw477 (by decide +kernel)) ?_
  refine ak (ok_iload_n (k := 2) rfl (by decide +kernel)) ?_
  refine ak (ok_aload (by decide +kernel)) ?_
  refine ak (ok_iload_n (k := 3) rfl (by decide +kernel)) ?_
  refine ak (ok_invV (r := 19) (kS_cut hsd l) qS_cut ck5 kd19 iS_cut tw1171 tw1172 (by decide) tw1170 (by decide +kernel)) ?_
  refine ak (ok_iast kd20 (by decide) (by decide) (by decide +kernel)) ?_
  refine ak (ok_iconst (n := 1) (by decide) (by decide +kernel)) ?_
  refine ak (ok_ireturn rfl (by decide +kernel)) ?_
  exact trivial
set_option maxRecDepth 1000000 in
theorem eF_put (x1 : Int32) (x2 : Int32) (x3 : Int32) (M : Mem) : run (cF_put) (fun _ _ _ _ => none) rtI 400 (seek (cF_put) 0) [aR (0, 0, 0), aI x1, aI x2, aI x3, aU] [] M = mF_put x1 x2 x3 M := id rfl
theorem lF_put {E : EV} {l : Launch} {p : Program} {e : Env} {s : State} {m : MethodId} {args : Array Value} {below : List Frame} {meth : Method} {c : Code} (A : AllOK E l 3 "FreeLances" prog_1_method_48_code 5 (some .int) outI (cF_put)) (C : Cx E p s m args meth c "FreeLances" prog_1_method_48_code 5 (some .int)) : ∀ (x1 : Int32) (x2 : Int32) (x3 : Int32) (M : Mem) (res : (Int32 × Mem)), mF_put x1 x2 x3 M = some res → Wm E p l e 3 s m args below meth c 5 0 [aR (0, 0, 0), aI x1, aI x2, aI x3, aU] [] M (outI res).1 (outI res).2 := by
  intro x1 x2 x3 M res h
  refine run_at C A rfl hrtI (n := 400) ((eF_put x1 x2 x3 M).trans h) ?_
  intro t als st M hk; cases hk
def dF_put {β : Type} : Den β := fun as M k => match as with
  | [.inr (.inr (.inl (al0, bl0, cl0))), .inl x1, .inl x2, .inl x3] => if al0 = 0 ∧ bl0 = 0 ∧ cl0 = 0 then (mF_put x1 x2 x3 M).bind fun q => k (aI q.1) q.2 else none
  | _ => none
theorem wF_put {E : EV} (hsd : E.2.2.2 = 0) (l : Launch) (x1 : Int32) (x2 : Int32) (x3 : Int32) (M : Mem) (q : (Int32 × Mem)) (hq : mF_put x1 x2 x3 M = some q) : Con E l 3 yF_put prog_1_method_48_code 5 (some .int) [aR (0, 0, 0), aI x1, aI x2, aI x3] M (outI q).1 (outI q).2 := by
  refine con_of iF_put (Nat.le_of_ble_eq_true rfl) ?_
  intro p e s m args below meth c C
  exact lF_put (oF_put hsd l) C x1 x2 x3 M _ hq
theorem kF_put {E : EV} (hsd : E.2.2.2 = 0) (l : Launch) {β : Type} : DenOK E l 3 yF_put prog_1_method_48_code 5 (some .int) true (dF_put (β := β)) := by
  intro as M k res h
  unfold dF_put at h
  split at h
  ·
    split at h
    · rename_i hc
      obtain ⟨rfl, rfl, rfl⟩ := hc
      obtain ⟨q, hq, hk⟩ := Option.bind_eq_some_iff.mp h
      exact ⟨aI q.1, q.2, hk, rfl, wF_put hsd l _ _ _ M q hq⟩
    · cases h
  · cases h
theorem qF_put {β : Type} : RecOK 0 (dF_put (β := β)) := by
  intro as M k res h
  unfold dF_put at h
  split at h
  ·
    split at h
    · rename_i hc
      obtain ⟨rfl, rfl, rfl⟩ := hc
      exact ⟨_, _, _, rfl⟩
    · cases h
  · cases h
/-! ===== FreeLances$Sheet.stand(II)Z ===== -/
abbrev yS_stand : MethodName := ⟨"FreeLances$Sheet", "stand", "(II)Z"⟩
theorem iS_stand : MI yS_stand prog_7_method_5_code 3 (some .boolean) 2 := ⟨tw1181, tw105, ⟨by decide, by decide⟩, by decide +kernel, by decide, by decide⟩
def cS_stand : List (Ent (Int32 × Mem)) := [(false, 0, 1, sLdI 2),
  (false, 1, 3, sIfLt 30),
  (false, 4, 1, sLdI 1),
  (false, 5, 3, sIfLt 30),
  (false, 8, 1, sLdI 2),
  (false, 9, 1, sLdA 0),
  (false, 10, 3, sGet 19 (fun w i M => aI (M 19 w i 1))),
  (false, 13, 3, sCmpGt 30),
  (false, 16, 1, sLdI 1),
  (false, 17, 1, sLdA 0),
  (false, 18, 3, sGet 19 (fun w i M => aI (M 19 w i 1))),
  (false, 21, 1, sLdI 2),
  (false, 22, 1, sBin (fun x y => x - y)),
  (false, 23, 3, sCmpGt 30),
  (false, 26, 1, sC 1),
  (false, 27, 3, sGoto 31),
  (false, 30, 1, sC 0),
  (false, 31, 1, sRetZ)]
theorem oS_stand {E : EV} (hsd : E.2.2.2 = 0) (l : Launch) : AllOK E l 1 "FreeLances$Sheet" prog_7_method_5_code 3 (some .boolean) outI (cS_stand) := by
  refine ak (ok_iload_n (k := 2) rfl (by decide +kernel)) ?_
  refine ak (ok_if_lt (off := 29) (by decide) (by decide +kernel)) ?_
  refine ak (ok_iload_n (k := 1) rfl (by decide +kernel)) ?_
  refine ak (ok_if_lt (off := 25) (by decide) (by decide +kernel)) ?_
  refine ak (ok_iload_n (k := 2) rfl (by decide +kernel)) ?_
  refine ak (ok_aload_n (k := 0) rfl (by decide +kernel)) ?_
  refine ak (ok_get (k := 1) ck5 kd19 (by decide) (fun _ _ _ => rfl) (fun _ _ _ _ _ => trivial) tw470 (by decide +kernel)) ?_
  refine ak (ok_icmp_gt (off := 17) (by decide) (by decide +kernel)) ?_
  refine ak (ok_iload_n (k := 1) rfl (by decide +kernel)) ?_
  refine ak (ok_aload_n (k := 0) rfl (by decide +kernel)) ?_
  refine ak (ok_get (k := 1) ck5 kd19 (by decide) (fun _ _ _ => rfl) (fun _ _ _ _ _ => trivial) tw470 (by decide +kernel)) ?_
  refine ak (ok_iload_n (k := 2) rfl (by decide +kernel)) ?_
  refine ak (ok_isub (by decide +kernel)) ?_
  refine ak (ok_icmp_gt (off := 7) (by decide) (by decide +kernel)) ?_
  refine ak (ok_iconst (n := 1) (by decide) (by decide +kernel)) ?_
  refine ak (ok_goto (off := 4) (by decide) (by decide +kernel)) ?_
  refine ak (ok_iconst (n := 0) (by decide) (by decide +kernel)) ?_
  refine ak (ok_zreturn rfl (by decide +kernel)) ?_
  exact trivial
set_option maxRecDepth 1000000 in
theorem eS_stand (i0 : Nat) (x1 : Int32) (x2 : Int32) (M : Mem) : run (cS_stand) (fun _ _ _ _ => none) rtI 400 (seek (cS_stand) 0) [aR (19, 0, i0), aI x1, aI x2] [] M = mS_stand i0 x1 x2 M := id rfl
theorem lS_stand {E : EV} {l : Launch} {p : Program} {e : Env} {s : State} {m : MethodId} {args : Array Value} {below : List Frame} {meth : Method} {c : Code} (A : AllOK E l 1 "FreeLances$Sheet" prog_7_method_5_code 3 (some .boolean) outI (cS_stand)) (C : Cx E p s m args meth c "FreeLances$Sheet" prog_7_method_5_code 3 (some .boolean)) : ∀ (i0 : Nat) (x1 : Int32) (x2 : Int32) (M : Mem) (res : (Int32 × Mem)), mS_stand i0 x1 x2 M = some res → Wm E p l e 1 s m args below meth c 3 0 [aR (19, 0, i0), aI x1, aI x2] [] M (outI res).1 (outI res).2 := by
  intro i0 x1 x2 M res h
  refine run_at C A rfl hrtI (n := 400) ((eS_stand i0 x1 x2 M).trans h) ?_
  intro t als st M hk; cases hk
def dS_stand {β : Type} : Den β := fun as M k => match as with
  | [.inr (.inr (.inl (al0, bl0, i0))), .inl x1, .inl x2] => if al0 = 19 ∧ bl0 = 0 then (mS_stand i0 x1 x2 M).bind fun q => k (aI q.1) q.2 else none
  | _ => none
theorem wS_stand {E : EV} (hsd : E.2.2.2 = 0) (l : Launch) (i0 : Nat) (x1 : Int32) (x2 : Int32) (M : Mem) (q : (Int32 × Mem)) (hq : mS_stand i0 x1 x2 M = some q) : Con E l 1 yS_stand prog_7_method_5_code 3 (some .boolean) [aR (19, 0, i0), aI x1, aI x2] M (outI q).1 (outI q).2 := by
  refine con_of iS_stand (Nat.le_of_ble_eq_true rfl) ?_
  intro p e s m args below meth c C
  exact lS_stand (oS_stand hsd l) C i0 x1 x2 M _ hq
theorem kS_stand {E : EV} (hsd : E.2.2.2 = 0) (l : Launch) {β : Type} : DenOK E l 1 yS_stand prog_7_method_5_code 3 (some .boolean) true (dS_stand (β := β)) := by
  intro as M k res h
  unfold dS_stand at h
  split at h
  ·
    split at h
    · rename_i hc
      obtain ⟨rfl, rfl⟩ := hc
      obtain ⟨q, hq, hk⟩ := Option.bind_eq_some_iff.mp h
      exact ⟨aI q.1, q.2, hk, rfl, wS_stand hsd l _ _ _ M q hq⟩
    · cases h
  · cases h
theorem qS_stand {β : Type} : RecOK 19 (dS_stand (β := β)) := by
  intro as M k res h
  unfold dS_stand at h
  split at h
  ·
    split at h
    · rename_i hc
      obtain ⟨rfl, rfl⟩ := hc
      exact ⟨_, _, _, rfl⟩
    · cases h
  · cases h
/-! ===== FreeLances.move(IIIII)I ===== -/
abbrev yF_move : MethodName := ⟨"FreeLances", "move", "(IIIII)I"⟩
theorem iF_move : MI yF_move prog_1_method_49_code 8 (some .int) 5 := ⟨tw1177, tw97, ⟨by decide, by decide⟩, by decide +kernel, by decide, by decide⟩
def cF_move : List (Ent (Int32 × Mem)) := [(false, 0, 1, sLdI 1),
  (false, 1, 3, sInv 1 true dF_isSheet),
  (false, 4, 3, sIfEq 14),
  (false, 7, 1, sLdI 3),
  (false, 8, 3, sInv 1 true dF_isSheet),
  (false, 11, 3, sIfNe 20),
  (false, 14, 1, sLdA 0),
  (false, 15, 1, sC 1),
  (false, 16, 3, sInv 2 true dF_finding),
  (false, 19, 1, sRetI),
  (false, 20, 1, sLdA 0),
  (false, 21, 3, sGet 0 (fun w i M => aR (18, 0, 0))),
  (false, 24, 1, sLdI 1),
  (false, 25, 1, sAald 18 4 19),
  (false, 26, 2, sStA 6),
  (false, 28, 1, sLdA 0),
  (false, 29, 3, sGet 0 (fun w i M => aR (18, 0, 0))),
  (false, 32, 1, sLdI 3),
  (false, 33, 1, sAald 18 4 19),
  (false, 34, 2, sStA 7),
  (false, 36, 2, sLdA 6),
  (false, 38, 3, sInv 1 true dS_missing),
  (false, 41, 3, sIfNe 52),
  (false, 44, 2, sLdA 7),
  (false, 46, 3, sInv 1 true dS_missing),
  (false, 49, 3, sIfEq 58),
  (false, 52, 1, sLdA 0),
  (false, 53, 1, sC 2),
  (false, 54, 3, sInv 2 true dF_finding),
  (false, 57, 1, sRetI),
  (false, 58, 2, sLdA 6),
  (false, 60, 3, sGet 19 (fun w i M => aI (M 19 w i 0))),
  (false, 63, 2, sLdA 7),
  (false, 65, 3, sGet 19 (fun w i M => aI (M 19 w i 0))),
  (false, 68, 3, sCmpEq 77),
  (false, 71, 1, sLdA 0),
  (false, 72, 1, sC 5),
  (false, 73, 3, sInv 2 true dF_finding),
  (false, 76, 1, sRetI),
  (false, 77, 2, sLdA 6),
  (false, 79, 1, sLdI 2),
  (false, 80, 2, sLdI 5),
  (false, 82, 3, sInv 3 true dS_stand),
  (false, 85, 3, sIfEq 100),
  (false, 88, 2, sLdA 7),
  (false, 90, 2, sLdI 4),
  (false, 92, 2, sLdI 5),
  (false, 94, 3, sInv 3 true dS_stand),
  (false, 97, 3, sIfNe 106),
  (false, 100, 1, sLdA 0),
  (false, 101, 1, sC 1),
  (false, 102, 3, sInv 2 true dF_finding),
  (false, 105, 1, sRetI),
  (false, 106, 2, sLdA 6),
  (false, 108, 3, sGet 19 (fun w i M => aR (20, w, i))),
  (false, 111, 1, sLdI 2),
  (false, 112, 2, sLdA 7),
  (false, 114, 3, sGet 19 (fun w i M => aR (20, w, i))),
  (false, 117, 2, sLdI 4),
  (false, 119, 2, sLdI 5),
  (false, 121, 3, sCopy 20 (fun _ => 24)),
  (false, 124, 2, sLdI 5),
  (false, 126, 1, sRetI)]
theorem oF_move {E : EV} (hsd : E.2.2.2 = 0) (l : Launch) : AllOK E l 3 "FreeLances" prog_1_method_49_code 8 (some .int) outI (cF_move) := by
  refine ak (ok_iload_n (k := 1) rfl (by decide +kernel)) ?_
  refine ak (ok_invS (kF_isSheet hsd l) iF_isSheet tw916 (by decide) tw915 (by decide +kernel)) ?_
  refine ak (ok_if_eq (off := 10) (by decide) (by decide +kernel)) ?_
  refine ak (ok_iload_n (k := 3) rfl (by decide +kernel)) ?_
  refine ak (ok_invS (kF_isSheet hsd l) iF_isSheet tw916 (by decide) tw915 (by decide +kernel)) ?_
  refine ak (ok_if_ne (off := 9) (by decide) (by decide +kernel)) ?_
  refine ak (ok_aload_n (k := 0) rfl (by decide +kernel)) ?_
  refine ak (ok_iconst (n := 1) (by decide) (by decide +kernel)) ?_
  refine ak (ok_invV (r := 0) (kF_finding hsd l) qF_finding ck10 kd0 iF_finding tw557 tw0 (by decide) tw555 (by decide +kernel)) ?_
  refine ak (ok_ireturn rfl (by decide +kernel)) ?_
  refine ak (ok_aload_n (k := 0) rfl (by decide +kernel)) ?_
  refine ak (ok_get (k := 3) ck10 kd0 (by decide) (fun _ _ _ => rfl) (vf_0_3 hsd) tw525 (by decide +kernel)) ?_
  refine ak (ok_iload_n (k := 1) rfl (by decide +kernel)) ?_
  refine ak (ok_aald (t0 := 7) (C := RX5) kd18 (by decide) rfl (vr_18 hsd) (by decide +kernel)) ?_
  refine ak (ok_astore (by decide) (by decide +kernel)) ?_
  refine ak (ok_aload_n (k := 0) rfl (by decide +kernel)) ?_
  refine ak (ok_get (k := 3) ck10 kd0 (by decide) (fun _ _ _ => rfl) (vf_0_3 hsd) tw525 (by decide +kernel)) ?_
  refine ak (ok_iload_n (k := 3) rfl (by decide +kernel)) ?_
  refine ak (ok_aald (t0 := 7) (C := RX5) kd18 (by decide) rfl (vr_18 hsd) (by decide +kernel)) ?_
  refine ak (ok_astore (by decide) (by decide +kernel)) ?_
  refine ak (ok_aload (by decide +kernel)) ?_
  refine ak (ok_invV (r := 19) (kS_missing hsd l) qS_missing ck5 kd19 iS_missing tw919 tw920 (by decide) tw918 (by decide +kernel)) ?_
  refine ak (ok_if_ne (off := 11) (by decide) (by decide +kernel)) ?_
  refine ak (ok_aload (by decide +kernel)) ?_
  refine ak (ok_invV (r := 19) (kS_missing hsd l) qS_missing ck5 kd19 iS_missing tw919 tw920 (by decide) tw918 (by decide +kernel)) ?_
  refine ak (ok_if_eq (off := 9) (by decide) (by decide +kernel)) ?_
  refine ak (ok_aload_n (k := 0) rfl (by decide +kernel)) ?_
  refine ak (ok_iconst (n := 2) (by decide) (by decide +kernel)) ?_
  refine ak (ok_invV (r := 0) (kF_finding hsd l) qF_finding ck10 kd0 iF_finding tw557 tw0 (by decide) tw555 (by decide +kernel)) ?_
  refine ak (ok_ireturn rfl (by decide +kernel)) ?_
  refine ak (ok_aload (by decide +kernel)) ?_
  refine ak (ok_get (k := 0) ck5 kd19 (by decide) (fun _ _ _ => rfl) (fun _ _ _ _ _ => trivial) tw469 (by decide +kernel)) ?_
  refine ak (ok_aload (by decide +kernel)) ?_
  refine ak (ok_get (k := 0) ck5 kd19 (by decide) (fun _ _ _ => rfl) (fun _ _ _ _ _ => trivial) tw469 (by decide +kernel)) ?_
  refine ak (ok_icmp_eq (off := 9) (by decide) (by decide +kernel)) ?_
  refine ak (ok_aload_n (k := 0) rfl (by decide +kernel)) ?_
  refine ak (ok_iconst (n := 5) (by decide) (by decide +kernel)) ?_
  refine ak (ok_invV (r := 0) (kF_finding hsd l) qF_finding ck10 kd0 iF_finding tw557 tw0 (by decide) tw555 (by decide +kernel)) ?_
  refine ak (ok_ireturn rfl (by decide +kernel)) ?_
  refine ak (ok_aload (by decide +kernel)) ?_
  refine ak (ok_iload_n (k := 2) rfl (by decide +kernel)) ?_
  refine ak (ok_iload (by decide +kernel)) ?_
  refine ak (ok_invV (r := 19) (kS_stand hsd l) qS_stand ck5 kd19 iS_stand tw1179 tw1180 (by decide) tw1178 (by decide +kernel)) ?_
  refine ak (ok_if_eq (off := 15) (by decide) (by decide +kernel)) ?_
  refine ak (ok_aload (by decide +kernel)) ?_
  refine ak (ok_iload (by decide +kernel)) ?_
  refine ak (ok_iload (by decide +kernel)) ?_
  refine ak (ok_invV (r := 19) (kS_stand hsd l) qS_stand ck5 kd19 iS_stand tw1179 tw1180 (by decide) tw1178 (by decide +kernel)) ?_
  refine ak (ok_if_ne (off := 9) (by decide) (by decide +kernel)) ?_
  refine ak (ok_aload_n (k := 0) rfl (by decide +kernel)) ?_
  refine ak (ok_iconst (n := 1) (by decide) (by decide +kernel)) ?_
  refine ak (ok_invV (r := 0) (kF_finding hsd l) qF_finding ck10 kd0 iF_finding tw557 tw0 (by decide) tw555 (by decide +kernel)) ?_
  refine ak (ok_ireturn rfl (by decide +kernel)) ?_
  refine ak (ok_aload (by decide +kernel)) ?_
  refine ak (ok_get (k := 2) ck5 kd19 (by decide) (fun _ _ _ => rfl) (vf_19_2 hsd) tw477 (by decide +kernel)) ?_
  refine ak (ok_iload_n (k := 2) rfl (by decide +kernel)) ?_
  refine ak (ok_aload (by decide +kernel)) ?_
  refine ak (ok_get (k := 2) ck5 kd19 (by decide) (fun _ _ _ => rfl) (vf_19_2 hsd) tw477 (by decide +kernel)) ?_
  refine ak (ok_iload (by decide +kernel)) ?_
  refine ak (ok_iload (by decide +kernel)) ?_
  refine ak (ok_copyI kd20 (by decide) (by decide) (by decide) tw1182 tw790 tw789 tw110 (by decide +kernel)) ?_
  refine ak (ok_iload (by decide +kernel)) ?_
  refine ak (ok_ireturn rfl (by decide +kernel)) ?_
  exact trivial
set_option maxRecDepth 1000000 in
theorem eF_move (x1 : Int32) (x2 : Int32) (x3 : Int32) (x4 : Int32) (x5 : Int32) (M : Mem) : run (cF_move) (fun _ _ _ _ => none) rtI 400 (seek (cF_move) 0) [aR (0, 0, 0), aI x1, aI x2, aI x3, aI x4, aI x5, aU, aU] [] M = mF_move x1 x2 x3 x4 x5 M := id rfl
theorem lF_move {E : EV} {l : Launch} {p : Program} {e : Env} {s : State} {m : MethodId} {args : Array Value} {below : List Frame} {meth : Method} {c : Code} (A : AllOK E l 3 "FreeLances" prog_1_method_49_code 8 (some .int) outI (cF_move)) (C : Cx E p s m args meth c "FreeLances" prog_1_method_49_code 8 (some .int)) : ∀ (x1 : Int32) (x2 : Int32) (x3 : Int32) (x4 : Int32) (x5 : Int32) (M : Mem) (res : (Int32 × Mem)), mF_move x1 x2 x3 x4 x5 M = some res → Wm E p l e 3 s m args below meth c 8 0 [aR (0, 0, 0), aI x1, aI x2, aI x3, aI x4, aI x5, aU, aU] [] M (outI res).1 (outI res).2 := by
  intro x1 x2 x3 x4 x5 M res h
  refine run_at C A rfl hrtI (n := 400) ((eF_move x1 x2 x3 x4 x5 M).trans h) ?_
  intro t als st M hk; cases hk
def dF_move {β : Type} : Den β := fun as M k => match as with
  | [.inr (.inr (.inl (al0, bl0, cl0))), .inl x1, .inl x2, .inl x3, .inl x4, .inl x5] => if al0 = 0 ∧ bl0 = 0 ∧ cl0 = 0 then (mF_move x1 x2 x3 x4 x5 M).bind fun q => k (aI q.1) q.2 else none
  | _ => none
theorem wF_move {E : EV} (hsd : E.2.2.2 = 0) (l : Launch) (x1 : Int32) (x2 : Int32) (x3 : Int32) (x4 : Int32) (x5 : Int32) (M : Mem) (q : (Int32 × Mem)) (hq : mF_move x1 x2 x3 x4 x5 M = some q) : Con E l 3 yF_move prog_1_method_49_code 8 (some .int) [aR (0, 0, 0), aI x1, aI x2, aI x3, aI x4, aI x5] M (outI q).1 (outI q).2 := by
  refine con_of iF_move (Nat.le_of_ble_eq_true rfl) ?_
  intro p e s m args below meth c C
  exact lF_move (oF_move hsd l) C x1 x2 x3 x4 x5 M _ hq
theorem kF_move {E : EV} (hsd : E.2.2.2 = 0) (l : Launch) {β : Type} : DenOK E l 3 yF_move prog_1_method_49_code 8 (some .int) true (dF_move (β := β)) := by
  intro as M k res h
  unfold dF_move at h
  split at h
  ·
    split at h
    · rename_i hc
      obtain ⟨rfl, rfl, rfl⟩ := hc
      obtain ⟨q, hq, hk⟩ := Option.bind_eq_some_iff.mp h
      exact ⟨aI q.1, q.2, hk, rfl, wF_move hsd l _ _ _ _ _ M q hq⟩
    · cases h
  · cases h
theorem qF_move {β : Type} : RecOK 0 (dF_move (β := β)) := by
  intro as M k res h
  unfold dF_move at h
  split at h
  ·
    split at h
    · rename_i hc
      obtain ⟨rfl, rfl, rfl⟩ := hc
      exact ⟨_, _, _, rfl⟩
    · cases h
  · cases h
/-! ===== FreeLances.image()I ===== -/
abbrev yF_image : MethodName := ⟨"FreeLances", "image", "()I"⟩
theorem iF_image : MI yF_image prog_1_method_50_code 1 (some .int) 0 := ⟨tw1186, tw97, ⟨by decide, by decide⟩, by decide +kernel, by decide, by decide⟩
def cF_image : List (Ent (Int32 × Mem)) := [(false, 0, 1, sLdA 0),
  (false, 1, 3, sGet 0 (fun w i M => aR (1, 1, 0))),
  (false, 4, 1, sLdA 0),
  (false, 5, 3, sGet 0 (fun w i M => aR (1, 0, 0))),
  (false, 8, 3, sInv 2 false dW_copy),
  (false, 11, 1, sLdA 0),
  (false, 12, 1, sDup),
  (false, 13, 3, sGet 0 (fun w i M => aI (M 0 w i 7))),
  (false, 16, 1, sC 1),
  (false, 17, 1, sBin (fun x y => x + y)),
  (false, 18, 3, sPut 0 7),
  (false, 21, 1, sLdA 0),
  (false, 22, 3, sGet 0 (fun w i M => aI (M 0 w i 7))),
  (false, 25, 1, sRetI)]
theorem oF_image {E : EV} (hsd : E.2.2.2 = 0) (l : Launch) : AllOK E l 4 "FreeLances" prog_1_method_50_code 1 (some .int) outI (cF_image) := by
  refine ak (ok_aload_n (k := 0) rfl (by decide +kernel)) ?_
  refine ak (ok_get (k := 1) ck10 kd0 (by decide) (fun _ _ _ => rfl) (vf_0_1 hsd) tw523 (by decide +kernel)) ?_
  refine ak (ok_aload_n (k := 0) rfl (by decide +kernel)) ?_
  refine ak (ok_get (k := 0) ck10 kd0 (by decide) (fun _ _ _ => rfl) (vf_0_0 hsd) tw522 (by decide +kernel)) ?_
  refine ak (ok_invV (r := 1) (kW_copy hsd l) qW_copy ck9 kd1 iW_copy tw1101 tw1102 (by decide) tw1100 (by decide +kernel)) ?_
  refine ak (ok_aload_n (k := 0) rfl (by decide +kernel)) ?_
  refine ak (ok_dup (by decide +kernel)) ?_
  refine ak (ok_get (k := 7) ck10 kd0 (by decide) (fun _ _ _ => rfl) (fun _ _ _ _ _ => trivial) tw529 (by decide +kernel)) ?_
  refine ak (ok_iconst (n := 1) (by decide) (by decide +kernel)) ?_
  refine ak (ok_iadd (by decide +kernel)) ?_
  refine ak (ok_put (k := 7) ck10 kd0 (by decide) (fun _ _ _ => rfl) rfl rfl (by decide) tw529 (by decide +kernel)) ?_
  refine ak (ok_aload_n (k := 0) rfl (by decide +kernel)) ?_
  refine ak (ok_get (k := 7) ck10 kd0 (by decide) (fun _ _ _ => rfl) (fun _ _ _ _ _ => trivial) tw529 (by decide +kernel)) ?_
  refine ak (ok_ireturn rfl (by decide +kernel)) ?_
  exact trivial
set_option maxRecDepth 1000000 in
theorem eF_image (M : Mem) : run (cF_image) (fun _ _ _ _ => none) rtI 400 (seek (cF_image) 0) [aR (0, 0, 0)] [] M = mF_image M := id rfl
theorem lF_image {E : EV} {l : Launch} {p : Program} {e : Env} {s : State} {m : MethodId} {args : Array Value} {below : List Frame} {meth : Method} {c : Code} (A : AllOK E l 4 "FreeLances" prog_1_method_50_code 1 (some .int) outI (cF_image)) (C : Cx E p s m args meth c "FreeLances" prog_1_method_50_code 1 (some .int)) : ∀ (M : Mem) (res : (Int32 × Mem)), mF_image M = some res → Wm E p l e 4 s m args below meth c 1 0 [aR (0, 0, 0)] [] M (outI res).1 (outI res).2 := by
  intro M res h
  refine run_at C A rfl hrtI (n := 400) ((eF_image M).trans h) ?_
  intro t als st M hk; cases hk
def dF_image {β : Type} : Den β := fun as M k => match as with
  | [.inr (.inr (.inl (al0, bl0, cl0)))] => if al0 = 0 ∧ bl0 = 0 ∧ cl0 = 0 then (mF_image M).bind fun q => k (aI q.1) q.2 else none
  | _ => none
theorem wF_image {E : EV} (hsd : E.2.2.2 = 0) (l : Launch) (M : Mem) (q : (Int32 × Mem)) (hq : mF_image M = some q) : Con E l 4 yF_image prog_1_method_50_code 1 (some .int) [aR (0, 0, 0)] M (outI q).1 (outI q).2 := by
  refine con_of iF_image (Nat.le_of_ble_eq_true rfl) ?_
  intro p e s m args below meth c C
  exact lF_image (oF_image hsd l) C M _ hq
theorem kF_image {E : EV} (hsd : E.2.2.2 = 0) (l : Launch) {β : Type} : DenOK E l 4 yF_image prog_1_method_50_code 1 (some .int) true (dF_image (β := β)) := by
  intro as M k res h
  unfold dF_image at h
  split at h
  ·
    split at h
    · rename_i hc
      obtain ⟨rfl, rfl, rfl⟩ := hc
      obtain ⟨q, hq, hk⟩ := Option.bind_eq_some_iff.mp h
      exact ⟨aI q.1, q.2, hk, rfl, wF_image hsd l M q hq⟩
    · cases h
  · cases h
theorem qF_image {β : Type} : RecOK 0 (dF_image (β := β)) := by
  intro as M k res h
  unfold dF_image at h
  split at h
  ·
    split at h
    · rename_i hc
      obtain ⟨rfl, rfl, rfl⟩ := hc
      exact ⟨_, _, _, rfl⟩
    · cases h
  · cases h
/-! ===== FreeLances.restore()I ===== -/
abbrev yF_restore : MethodName := ⟨"FreeLances", "restore", "()I"⟩
theorem iF_restore : MI yF_restore prog_1_method_51_code 1 (some .int) 0 := ⟨tw1190, tw97, ⟨by decide, by decide⟩, by decide +kernel, by decide, by decide⟩
def cF_restore : List (Ent (Int32 × Mem)) := [(false, 0, 1, sLdA 0),
  (false, 1, 3, sGet 0 (fun w i M => aI (M 0 w i 7))),
  (false, 4, 3, sIfNe 13),
  (false, 7, 1, sLdA 0),
  (false, 8, 1, sC 2),
  (false, 9, 3, sInv 2 true dF_finding),
  (false, 12, 1, sRetI),
  (false, 13, 1, sLdA 0),
  (false, 14, 3, sGet 0 (fun w i M => aR (1, 0, 0))),
  (false, 17, 1, sLdA 0),
  (false, 18, 3, sGet 0 (fun w i M => aR (1, 1, 0))),
  (false, 21, 3, sInv 2 false dW_copy),
  (false, 24, 1, sLdA 0),
  (false, 25, 3, sGet 0 (fun w i M => aR (1, 0, 0))),
  (false, 28, 3, sGet 1 (fun w i M => aI (M 1 w i 0))),
  (false, 31, 1, sRetI)]
theorem oF_restore {E : EV} (hsd : E.2.2.2 = 0) (l : Launch) : AllOK E l 4 "FreeLances" prog_1_method_51_code 1 (some .int) outI (cF_restore) := by
  refine ak (ok_aload_n (k := 0) rfl (by decide +kernel)) ?_
  refine ak (ok_get (k := 7) ck10 kd0 (by decide) (fun _ _ _ => rfl) (fun _ _ _ _ _ => trivial) tw529 (by decide +kernel)) ?_
  refine ak (ok_if_ne (off := 9) (by decide) (by decide +kernel)) ?_
  refine ak (ok_aload_n (k := 0) rfl (by decide +kernel)) ?_
  refine ak (ok_iconst (n := 2) (by decide) (by decide +kernel)) ?_
  refine ak (ok_invV (r := 0) (kF_finding hsd l) qF_finding ck10 kd0 iF_finding tw557 tw0 (by decide) tw555 (by decide +kernel)) ?_
  refine ak (ok_ireturn rfl (by decide +kernel)) ?_
  refine ak (ok_aload_n (k := 0) rfl (by decide +kernel)) ?_
  refine ak (ok_get (k := 0) ck10 kd0 (by decide) (fun _ _ _ => rfl) (vf_0_0 hsd) tw522 (by decide +kernel)) ?_
  refine ak (ok_aload_n (k := 0) rfl (by decide +kernel)) ?_
  refine ak (ok_get (k := 1) ck10 kd0 (by decide) (fun _ _ _ => rfl) (vf_0_1 hsd) tw523 (by decide +kernel)) ?_
  refine ak (ok_invV (r := 1) (kW_copy hsd l) qW_copy ck9 kd1 iW_copy tw1101 tw1102 (by decide) tw1100 (by decide +kernel)) ?_
  refine ak (ok_aload_n (k := 0) rfl (by decide +kernel)) ?_
  refine ak (ok_get (k := 0) ck10 kd0 (by decide) (fun _ _ _ => rfl) (vf_0_0 hsd) tw522 (by decide +kernel)) ?_
  refine ak (ok_get (k := 0) ck9 kd1 (by decide) (fun _ _ _ => rfl) (fun _ _ _ _ _ => trivial) tw387 (by decide +kernel)) ?_
  refine ak (ok_ireturn rfl (by decide +kernel)) ?_
  exact trivial
set_option maxRecDepth 1000000 in
theorem eF_restore (M : Mem) : run (cF_restore) (fun _ _ _ _ => none) rtI 400 (seek (cF_restore) 0) [aR (0, 0, 0)] [] M = mF_restore M := id rfl
theorem lF_restore {E : EV} {l : Launch} {p : Program} {e : Env} {s : State} {m : MethodId} {args : Array Value} {below : List Frame} {meth : Method} {c : Code} (A : AllOK E l 4 "FreeLances" prog_1_method_51_code 1 (some .int) outI (cF_restore)) (C : Cx E p s m args meth c "FreeLances" prog_1_method_51_code 1 (some .int)) : ∀ (M : Mem) (res : (Int32 × Mem)), mF_restore M = some res → Wm E p l e 4 s m args below meth c 1 0 [aR (0, 0, 0)] [] M (outI res).1 (outI res).2 := by
  intro M res h
  refine run_at C A rfl hrtI (n := 400) ((eF_restore M).trans h) ?_
  intro t als st M hk; cases hk
def dF_restore {β : Type} : Den β := fun as M k => match as with
  | [.inr (.inr (.inl (al0, bl0, cl0)))] => if al0 = 0 ∧ bl0 = 0 ∧ cl0 = 0 then (mF_restore M).bind fun q => k (aI q.1) q.2 else none
  | _ => none
theorem wF_restore {E : EV} (hsd : E.2.2.2 = 0) (l : Launch) (M : Mem) (q : (Int32 × Mem)) (hq : mF_restore M = some q) : Con E l 4 yF_restore prog_1_method_51_code 1 (some .int) [aR (0, 0, 0)] M (outI q).1 (outI q).2 := by
  refine con_of iF_restore (Nat.le_of_ble_eq_true rfl) ?_
  intro p e s m args below meth c C
  exact lF_restore (oF_restore hsd l) C M _ hq
theorem kF_restore {E : EV} (hsd : E.2.2.2 = 0) (l : Launch) {β : Type} : DenOK E l 4 yF_restore prog_1_method_51_code 1 (some .int) true (dF_restore (β := β)) := by
  intro as M k res h
  unfold dF_restore at h
  split at h
  ·
    split at h
    · rename_i hc
      obtain ⟨rfl, rfl, rfl⟩ := hc
      obtain ⟨q, hq, hk⟩ := Option.bind_eq_some_iff.mp h
      exact ⟨aI q.1, q.2, hk, rfl, wF_restore hsd l M q hq⟩
    · cases h
  · cases h
theorem qF_restore {β : Type} : RecOK 0 (dF_restore (β := β)) := by
  intro as M k res h
  unfold dF_restore at h
  split at h
  ·
    split at h
    · rename_i hc
      obtain ⟨rfl, rfl, rfl⟩ := hc
      exact ⟨_, _, _, rfl⟩
    · cases h
  · cases h
/-! ===== FreeLances.tell(I)I ===== -/
abbrev yF_tell : MethodName := ⟨"FreeLances", "tell", "(I)I"⟩
theorem iF_tell : MI yF_tell prog_1_method_52_code 2 (some .int) 1 := ⟨tw1194, tw97, ⟨by decide, by decide⟩, by decide +kernel, by decide, by decide⟩
def cF_tell : List (Ent (Int32 × Mem)) := [(false, 0, 1, sLdA 0),
  (false, 1, 3, sGet 0 (fun w i M => aR (1, 0, 0))),
  (false, 4, 3, sGet 1 (fun w i M => aI (M 1 w i 16))),
  (false, 7, 2, sC 20),
  (false, 9, 3, sCmpLt 18),
  (false, 12, 1, sLdA 0),
  (false, 13, 1, sC 4),
  (false, 14, 3, sInv 2 true dF_finding),
  (false, 17, 1, sRetI),
  (false, 18, 1, sLdA 0),
  (false, 19, 3, sGet 0 (fun w i M => aR (1, 0, 0))),
  (false, 22, 3, sGet 1 (fun w i M => aR (16, w, 0))),
  (false, 25, 1, sLdA 0),
  (false, 26, 3, sGet 0 (fun w i M => aR (1, 0, 0))),
  (false, 29, 3, sGet 1 (fun w i M => aI (M 1 w i 16))),
  (false, 32, 1, sLdI 1),
  (false, 33, 1, sIast 16 20),
  (false, 34, 1, sLdA 0),
  (false, 35, 3, sGet 0 (fun w i M => aR (1, 0, 0))),
  (false, 38, 1, sDup),
  (false, 39, 3, sGet 1 (fun w i M => aI (M 1 w i 16))),
  (false, 42, 1, sC 1),
  (false, 43, 1, sBin (fun x y => x + y)),
  (false, 44, 3, sPut 1 16),
  (false, 47, 1, sLdA 0),
  (false, 48, 3, sGet 0 (fun w i M => aR (1, 0, 0))),
  (false, 51, 3, sGet 1 (fun w i M => aI (M 1 w i 16))),
  (false, 54, 1, sRetI)]
theorem oF_tell {E : EV} (hsd : E.2.2.2 = 0) (l : Launch) : AllOK E l 2 "FreeLances" prog_1_method_52_code 2 (some .int) outI (cF_tell) := by
  refine ak (ok_aload_n (k := 0) rfl (by decide +kernel)) ?_
  refine ak (ok_get (k := 0) ck10 kd0 (by decide) (fun _ _ _ => rfl) (vf_0_0 hsd) tw522 (by decide +kernel)) ?_
  refine ak (ok_get (k := 16) ck9 kd1 (by decide) (fun _ _ _ => rfl) (fun _ _ _ _ _ => trivial) tw421 (by decide +kernel)) ?_
  refine ak (ok_bipush (n := 20) (by decide) (by decide +kernel)) ?_
  refine ak (ok_icmp_lt (off := 9) (by decide) (by decide +kernel)) ?_
  refine ak (ok_aload_n (k := 0) rfl (by decide +kernel)) ?_
  refine ak (ok_iconst (n := 4) (by decide) (by decide +kernel)) ?_
  refine ak (ok_invV (r := 0) (kF_finding hsd l) qF_finding ck10 kd0 iF_finding tw557 tw0 (by decide) tw555 (by decide +kernel)) ?_
  refine ak (ok_ireturn rfl (by decide +kernel)) ?_
  refine ak (ok_aload_n (k := 0) rfl (by decide +kernel)) ?_
  refine ak (ok_get (k := 0) ck10 kd0 (by decide) (fun _ _ _ => rfl) (vf_0_0 hsd) tw522 (by decide +kernel)) ?_
  refine ak (ok_get (k := 15) ck9 kd1 (by decide) (fun _ _ _ => rfl) (vf_1_15 hsd) tw419 (by decide +kernel)) ?_
  refine ak (ok_aload_n (k := 0) rfl (by decide +kernel)) ?_
  refine ak (ok_get (k := 0) ck10 kd0 (by decide) (fun _ _ _ => rfl) (vf_0_0 hsd) tw522 (by decide +kernel)) ?_
  refine ak (ok_get (k := 16) ck9 kd1 (by decide) (fun _ _ _ => rfl) (fun _ _ _ _ _ => trivial) tw421 (by decide +kernel)) ?_
  refine ak (ok_iload_n (k := 1) rfl (by decide +kernel)) ?_
  refine ak (ok_iast kd16 (by decide) (by decide) (by decide +kernel)) ?_
  refine ak (ok_aload_n (k := 0) rfl (by decide +kernel)) ?_
  refine ak (ok_get (k := 0) ck10 kd0 (by decide) (fun _ _ _ => rfl) (vf_0_0 hsd) tw522 (by decide +kernel)) ?_
  refine ak (ok_dup (by decide +kernel)) ?_
  refine ak (ok_get (k := 16) ck9 kd1 (by decide) (fun _ _ _ => rfl) (fun _ _ _ _ _ => trivial) tw421 (by decide +kernel)) ?_
  refine ak (ok_iconst (n := 1) (by decide) (by decide +kernel)) ?_
  refine ak (ok_iadd (by decide +kernel)) ?_
  refine ak (ok_put (k := 16) ck9 kd1 (by decide) (fun _ _ _ => rfl) rfl rfl (by decide) tw421 (by decide +kernel)) ?_
  refine ak (ok_aload_n (k := 0) rfl (by decide +kernel)) ?_
  refine ak (ok_get (k := 0) ck10 kd0 (by decide) (fun _ _ _ => rfl) (vf_0_0 hsd) tw522 (by decide +kernel)) ?_
  refine ak (ok_get (k := 16) ck9 kd1 (by decide) (fun _ _ _ => rfl) (fun _ _ _ _ _ => trivial) tw421 (by decide +kernel)) ?_
  refine ak (ok_ireturn rfl (by decide +kernel)) ?_
  exact trivial
set_option maxRecDepth 1000000 in
theorem eF_tell (x1 : Int32) (M : Mem) : run (cF_tell) (fun _ _ _ _ => none) rtI 400 (seek (cF_tell) 0) [aR (0, 0, 0), aI x1] [] M = mF_tell x1 M := id rfl
theorem lF_tell {E : EV} {l : Launch} {p : Program} {e : Env} {s : State} {m : MethodId} {args : Array Value} {below : List Frame} {meth : Method} {c : Code} (A : AllOK E l 2 "FreeLances" prog_1_method_52_code 2 (some .int) outI (cF_tell)) (C : Cx E p s m args meth c "FreeLances" prog_1_method_52_code 2 (some .int)) : ∀ (x1 : Int32) (M : Mem) (res : (Int32 × Mem)), mF_tell x1 M = some res → Wm E p l e 2 s m args below meth c 2 0 [aR (0, 0, 0), aI x1] [] M (outI res).1 (outI res).2 := by
  intro x1 M res h
  refine run_at C A rfl hrtI (n := 400) ((eF_tell x1 M).trans h) ?_
  intro t als st M hk; cases hk
def dF_tell {β : Type} : Den β := fun as M k => match as with
  | [.inr (.inr (.inl (al0, bl0, cl0))), .inl x1] => if al0 = 0 ∧ bl0 = 0 ∧ cl0 = 0 then (mF_tell x1 M).bind fun q => k (aI q.1) q.2 else none
  | _ => none
theorem wF_tell {E : EV} (hsd : E.2.2.2 = 0) (l : Launch) (x1 : Int32) (M : Mem) (q : (Int32 × Mem)) (hq : mF_tell x1 M = some q) : Con E l 2 yF_tell prog_1_method_52_code 2 (some .int) [aR (0, 0, 0), aI x1] M (outI q).1 (outI q).2 := by
  refine con_of iF_tell (Nat.le_of_ble_eq_true rfl) ?_
  intro p e s m args below meth c C
  exact lF_tell (oF_tell hsd l) C x1 M _ hq
theorem kF_tell {E : EV} (hsd : E.2.2.2 = 0) (l : Launch) {β : Type} : DenOK E l 2 yF_tell prog_1_method_52_code 2 (some .int) true (dF_tell (β := β)) := by
  intro as M k res h
  unfold dF_tell at h
  split at h
  ·
    split at h
    · rename_i hc
      obtain ⟨rfl, rfl, rfl⟩ := hc
      obtain ⟨q, hq, hk⟩ := Option.bind_eq_some_iff.mp h
      exact ⟨aI q.1, q.2, hk, rfl, wF_tell hsd l _ M q hq⟩
    · cases h
  · cases h
theorem qF_tell {β : Type} : RecOK 0 (dF_tell (β := β)) := by
  intro as M k res h
  unfold dF_tell at h
  split at h
  ·
    split at h
    · rename_i hc
      obtain ⟨rfl, rfl, rfl⟩ := hc
      exact ⟨_, _, _, rfl⟩
    · cases h
  · cases h
/-! ===== FreeLances$World.townRowAboveZero()Z ===== -/
abbrev yW_townRowAboveZero : MethodName := ⟨"FreeLances$World", "townRowAboveZero", "()Z"⟩
theorem iW_townRowAboveZero : MI yW_townRowAboveZero prog_11_method_30_code 2 (some .boolean) 0 := ⟨tw1202, tw98, ⟨by decide, by decide⟩, by decide +kernel, by decide, by decide⟩
def cW_townRowAboveZero : List (Ent (Int32 × Mem)) := [(false, 0, 1, sC 0),
  (false, 1, 1, sStI 1),
  (true, 2, 1, sLdI 1),
  (false, 3, 1, sLdA 0),
  (false, 4, 3, sGet 1 (fun w i M => aI (M 1 w i 2))),
  (false, 7, 3, sCmpGe 32),
  (false, 10, 1, sLdA 0),
  (false, 11, 3, sGet 1 (fun w i M => aR (16, w, 0))),
  (false, 14, 1, sLdA 0),
  (false, 15, 3, sGet 1 (fun w i M => aI (M 1 w i 6))),
  (false, 18, 1, sLdI 1),
  (false, 19, 1, sBin (fun x y => x + y)),
  (false, 20, 1, sIald 16 20),
  (false, 21, 3, sIfLe 26),
  (false, 24, 1, sC 1),
  (false, 25, 1, sRetZ),
  (false, 26, 3, sInc 1 1),
  (false, 29, 3, sGoto 2),
  (false, 32, 1, sC 0),
  (false, 33, 1, sRetZ)]
theorem oW_townRowAboveZero {E : EV} (hsd : E.2.2.2 = 0) (l : Launch) : AllOK E l 1 "FreeLances$World" prog_11_method_30_code 2 (some .boolean) outI (cW_townRowAboveZero) := by
  refine ak (ok_iconst (n := 0) (by decide) (by decide +kernel)) ?_
  refine ak (ok_istore_n (k := 1) rfl (by decide) (by decide +kernel)) ?_
  refine ak (ok_iload_n (k := 1) rfl (by decide +kernel)) ?_
  refine ak (ok_aload_n (k := 0) rfl (by decide +kernel)) ?_
  refine ak (ok_get (k := 2) ck9 kd1 (by decide) (fun _ _ _ => rfl) (fun _ _ _ _ _ => trivial) tw390 (by decide +kernel)) ?_
  refine ak (ok_icmp_ge (off := 25) (by decide) (by decide +kernel)) ?_
  refine ak (ok_aload_n (k := 0) rfl (by decide +kernel)) ?_
  refine ak (ok_get (k := 15) ck9 kd1 (by decide) (fun _ _ _ => rfl) (vf_1_15 hsd) tw418 (by decide +kernel)) ?_
  refine ak (ok_aload_n (k := 0) rfl (by decide +kernel)) ?_
  refine ak (ok_get (k := 6) ck9 kd1 (by decide) (fun _ _ _ => rfl) (fun _ _ _ _ _ => trivial) tw399 (by decide +kernel)) ?_
  refine ak (ok_iload_n (k := 1) rfl (by decide +kernel)) ?_
  refine ak (ok_iadd (by decide +kernel)) ?_
  refine ak (ok_iald kd16 (by decide) (by decide +kernel)) ?_
  refine ak (ok_if_le (off := 5) (by decide) (by decide +kernel)) ?_
  refine ak (ok_iconst (n := 1) (by decide) (by decide +kernel)) ?_
  refine ak (ok_zreturn rfl (by decide +kernel)) ?_
  refine ak (ok_iinc (n := 1) (by decide) (by decide) (by decide +kernel)) ?_
  refine ak (ok_goto (off := (-27)) (by decide) (by decide +kernel)) ?_
  refine ak (ok_iconst (n := 0) (by decide) (by decide +kernel)) ?_
  refine ak (ok_zreturn rfl (by decide +kernel)) ?_
  exact trivial
def KW_townRowAboveZero_2 (j2 : Nat → Int32 → Mem → Option (Int32 × Mem)) : Jm (Int32 × Mem) := fun t als st M =>
  if t = 2 then (match als, st with
  | [.inr (.inr (.inl (al0, w0, cl0))), .inl x1], [] => if al0 = 1 ∧ cl0 = 0 then j2 w0 x1 M else none
  | _, _ => none) else
  none
set_option maxRecDepth 1000000 in
theorem eW_townRowAboveZero_2 (j2 : Nat → Int32 → Mem → Option (Int32 × Mem)) (w0 : Nat) (x1 : Int32) (M : Mem) : run (cW_townRowAboveZero) (KW_townRowAboveZero_2 j2) rtI 400 (seek (cW_townRowAboveZero) 2) [aR (1, w0, 0), aI x1] [] M = mW_townRowAboveZero_2b j2 w0 x1 M := id rfl
theorem lW_townRowAboveZero_2 {E : EV} {l : Launch} {p : Program} {e : Env} {s : State} {m : MethodId} {args : Array Value} {below : List Frame} {meth : Method} {c : Code} (A : AllOK E l 1 "FreeLances$World" prog_11_method_30_code 2 (some .boolean) outI (cW_townRowAboveZero)) (C : Cx E p s m args meth c "FreeLances$World" prog_11_method_30_code 2 (some .boolean)) : ∀ (n : Nat), ∀ (w0 : Nat) (x1 : Int32) (M : Mem) (res : (Int32 × Mem)), mW_townRowAboveZero_2 n w0 x1 M = some res → Wm E p l e 1 s m args below meth c 2 2 [aR (1, w0, 0), aI x1] [] M (outI res).1 (outI res).2 := by
  intro n
  induction n with
  | zero => intro _ _ M res h; cases h
  | succ n ih =>
    intro w0 x1 M res h
    refine run_at C A rfl hrtI (n := 400) ((eW_townRowAboveZero_2 (mW_townRowAboveZero_2 n) w0 x1 M).trans h) ?_
    intro t als st M hk
    unfold KW_townRowAboveZero_2 at hk
    split at hk
    · rename_i ht
      subst ht
      split at hk
      · split at hk
        · rename_i hc
          obtain ⟨rfl, rfl⟩ := hc
          exact ih _ _ _ _ hk
        · cases hk
      · cases hk
    cases hk
def KW_townRowAboveZero (j2 : Nat → Int32 → Mem → Option (Int32 × Mem)) : Jm (Int32 × Mem) := fun t als st M =>
  if t = 2 then (match als, st with
  | [.inr (.inr (.inl (al0, w0, cl0))), .inl x1], [] => if al0 = 1 ∧ cl0 = 0 then j2 w0 x1 M else none
  | _, _ => none) else
  none
set_option maxRecDepth 1000000 in
theorem eW_townRowAboveZero (j2 : Nat → Int32 → Mem → Option (Int32 × Mem)) (w0 : Nat) (M : Mem) : run (cW_townRowAboveZero) (KW_townRowAboveZero j2) rtI 400 (seek (cW_townRowAboveZero) 0) [aR (1, w0, 0), aU] [] M = mW_townRowAboveZerob j2 w0 M := id rfl
theorem lW_townRowAboveZero {E : EV} {l : Launch} {p : Program} {e : Env} {s : State} {m : MethodId} {args : Array Value} {below : List Frame} {meth : Method} {c : Code} (A : AllOK E l 1 "FreeLances$World" prog_11_method_30_code 2 (some .boolean) outI (cW_townRowAboveZero)) (C : Cx E p s m args meth c "FreeLances$World" prog_11_method_30_code 2 (some .boolean)) : ∀ (w0 : Nat) (M : Mem) (res : (Int32 × Mem)), mW_townRowAboveZero w0 M = some res → Wm E p l e 1 s m args below meth c 2 0 [aR (1, w0, 0), aU] [] M (outI res).1 (outI res).2 := by
  intro w0 M res h
  refine run_at C A rfl hrtI (n := 400) ((eW_townRowAboveZero (mW_townRowAboveZero_2 fuel) w0 M).trans h) ?_
  intro t als st M hk
  unfold KW_townRowAboveZero at hk
  split at hk
  · rename_i ht
    subst ht
    split at hk
    · split at hk
      · rename_i hc
        obtain ⟨rfl, rfl⟩ := hc
        exact lW_townRowAboveZero_2 A C _ _ _ _ _ hk
      · cases hk
    · cases hk
  cases hk
def dW_townRowAboveZero {β : Type} : Den β := fun as M k => match as with
  | [.inr (.inr (.inl (al0, w0, cl0)))] => if al0 = 1 ∧ cl0 = 0 then (mW_townRowAboveZero w0 M).bind fun q => k (aI q.1) q.2 else none
  | _ => none
theorem wW_townRowAboveZero {E : EV} (hsd : E.2.2.2 = 0) (l : Launch) (w0 : Nat) (M : Mem) (q : (Int32 × Mem)) (hq : mW_townRowAboveZero w0 M = some q) : Con E l 1 yW_townRowAboveZero prog_11_method_30_code 2 (some .boolean) [aR (1, w0, 0)] M (outI q).1 (outI q).2 := by
  refine con_of iW_townRowAboveZero (Nat.le_of_ble_eq_true rfl) ?_
  intro p e s m args below meth c C
  exact lW_townRowAboveZero (oW_townRowAboveZero hsd l) C w0 M _ hq
theorem kW_townRowAboveZero {E : EV} (hsd : E.2.2.2 = 0) (l : Launch) {β : Type} : DenOK E l 1 yW_townRowAboveZero prog_11_method_30_code 2 (some .boolean) true (dW_townRowAboveZero (β := β)) := by
  intro as M k res h
  unfold dW_townRowAboveZero at h
  split at h
  ·
    split at h
    · rename_i hc
      obtain ⟨rfl, rfl⟩ := hc
      obtain ⟨q, hq, hk⟩ := Option.bind_eq_some_iff.mp h
      exact ⟨aI q.1, q.2, hk, rfl, wW_townRowAboveZero hsd l _ M q hq⟩
    · cases h
  · cases h
theorem qW_townRowAboveZero {β : Type} : RecOK 1 (dW_townRowAboveZero (β := β)) := by
  intro as M k res h
  unfold dW_townRowAboveZero at h
  split at h
  ·
    split at h
    · rename_i hc
      obtain ⟨rfl, rfl⟩ := hc
      exact ⟨_, _, _, rfl⟩
    · cases h
  · cases h
/-! ===== FreeLances$World.rowsAboveCost()Z ===== -/
abbrev yW_rowsAboveCost : MethodName := ⟨"FreeLances$World", "rowsAboveCost", "()Z"⟩
theorem iW_rowsAboveCost : MI yW_rowsAboveCost prog_11_method_31_code 5 (some .boolean) 0 := ⟨tw1206, tw98, ⟨by decide, by decide⟩, by decide +kernel, by decide, by decide⟩
def cW_rowsAboveCost : List (Ent (Int32 × Mem)) := [(false, 0, 1, sC 0),
  (false, 1, 1, sStI 1),
  (true, 2, 1, sLdI 1),
  (false, 3, 1, sLdA 0),
  (false, 4, 3, sGet 1 (fun w i M => aI (M 1 w i 6))),
  (false, 7, 3, sCmpGe 72),
  (false, 10, 1, sC 0),
  (false, 11, 1, sStI 2),
  (true, 12, 1, sLdI 2),
  (false, 13, 1, sLdA 0),
  (false, 14, 3, sGet 1 (fun w i M => aI (M 1 w i 2))),
  (false, 17, 3, sCmpGe 66),
  (false, 20, 1, sLdA 0),
  (false, 21, 3, sGet 1 (fun w i M => aR (16, w, 0))),
  (false, 24, 1, sLdI 1),
  (false, 25, 1, sIald 16 20),
  (false, 26, 1, sI2L),
  (false, 27, 1, sLdA 0),
  (false, 28, 3, sGet 1 (fun w i M => aR (16, w, 0))),
  (false, 31, 1, sLdA 0),
  (false, 32, 3, sGet 1 (fun w i M => aI (M 1 w i 6))),
  (false, 35, 1, sLdI 2),
  (false, 36, 1, sBin (fun x y => x + y)),
  (false, 37, 1, sIald 16 20),
  (false, 38, 1, sI2L),
  (false, 39, 1, sBinL (fun x y => x + y)),
  (false, 40, 1, sStL 3),
  (false, 41, 1, sLdL 3),
  (false, 42, 1, sLdA 0),
  (false, 43, 3, sGet 1 (fun w i M => aR (5, w, 0))),
  (false, 46, 1, sLdI 1),
  (false, 47, 1, sAald 5 5 6),
  (false, 48, 3, sGet 6 (fun w i M => aR (8, w, i))),
  (false, 51, 1, sLdI 2),
  (false, 52, 1, sIald 8 8),
  (false, 53, 1, sI2L),
  (false, 54, 1, sLcmp),
  (false, 55, 3, sIfLe 60),
  (false, 58, 1, sC 1),
  (false, 59, 1, sRetZ),
  (false, 60, 3, sInc 2 1),
  (false, 63, 3, sGoto 12),
  (false, 66, 3, sInc 1 1),
  (false, 69, 3, sGoto 2),
  (false, 72, 1, sC 0),
  (false, 73, 1, sRetZ)]
theorem oW_rowsAboveCost {E : EV} (hsd : E.2.2.2 = 0) (l : Launch) : AllOK E l 1 "FreeLances$World" prog_11_method_31_code 5 (some .boolean) outI (cW_rowsAboveCost) := by
  refine ak (ok_iconst (n := 0) (by decide) (by decide +kernel)) ?_
  refine ak (ok_istore_n (k := 1) rfl (by decide) (by decide +kernel)) ?_
  refine ak (ok_iload_n (k := 1) rfl (by decide +kernel)) ?_
  refine ak (ok_aload_n (k := 0) rfl (by decide +kernel)) ?_
  refine ak (ok_get (k := 6) ck9 kd1 (by decide) (fun _ _ _ => rfl) (fun _ _ _ _ _ => trivial) tw399 (by decide +kernel)) ?_
  refine ak (ok_icmp_ge (off := 65) (by decide) (by decide +kernel)) ?_
  refine ak (ok_iconst (n := 0) (by decide) (by decide +kernel)) ?_
  refine ak (ok_istore_n (k := 2) rfl (by decide) (by decide +kernel)) ?_
  refine ak (ok_iload_n (k := 2) rfl (by decide +kernel)) ?_
  refine ak (ok_aload_n (k := 0) rfl (by decide +kernel)) ?_
  refine ak (ok_get (k := 2) ck9 kd1 (by decide) (fun _ _ _ => rfl) (fun _ _ _ _ _ => trivial) tw390 (by decide +kernel)) ?_
  refine ak (ok_icmp_ge (off := 49) (by decide) (by decide +kernel)) ?_
  refine ak (ok_aload_n (k := 0) rfl (by decide +kernel)) ?_
  refine ak (ok_get (k := 15) ck9 kd1 (by decide) (fun _ _ _ => rfl) (vf_1_15 hsd) tw418 (by decide +kernel)) ?_
  refine ak (ok_iload_n (k := 1) rfl (by decide +kernel)) ?_
  refine ak (ok_iald kd16 (by decide) (by decide +kernel)) ?_
  refine ak (ok_i2l (by decide +kernel)) ?_
  refine ak (ok_aload_n (k := 0) rfl (by decide +kernel)) ?_
  refine ak (ok_get (k := 15) ck9 kd1 (by decide) (fun _ _ _ => rfl) (vf_1_15 hsd) tw418 (by decide +kernel)) ?_
  refine ak (ok_aload_n (k := 0) rfl (by decide +kernel)) ?_
  refine ak (ok_get (k := 6) ck9 kd1 (by decide) (fun _ _ _ => rfl) (fun _ _ _ _ _ => trivial) tw399 (by decide +kernel)) ?_
  refine ak (ok_iload_n (k := 2) rfl (by decide +kernel)) ?_
  refine ak (ok_iadd (by decide +kernel)) ?_
  refine ak (ok_iald kd16 (by decide) (by decide +kernel)) ?_
  refine ak (ok_i2l (by decide +kernel)) ?_
  refine ak (ok_ladd (by decide +kernel)) ?_
  refine ak (ok_lstore_n (k := 3) rfl (by decide) (by decide +kernel)) ?_
  refine ak (ok_lload_n (k := 3) rfl (by decide +kernel)) ?_
  refine ak (ok_aload_n (k := 0) rfl (by decide +kernel)) ?_
  refine ak (ok_get (k := 5) ck9 kd1 (by decide) (fun _ _ _ => rfl) (vf_1_5 hsd) tw396 (by decide +kernel)) ?_
  refine ak (ok_iload_n (k := 1) rfl (by decide +kernel)) ?_
  refine ak (ok_aald (t0 := 3) (C := RX1) kd5 (by decide) rfl (vr_5 hsd) (by decide +kernel)) ?_
  refine ak (ok_get (k := 13) ck1 kd6 (by decide) (fun _ _ _ => rfl) (vf_6_13 hsd) tw235 (by decide +kernel)) ?_
  refine ak (ok_iload_n (k := 2) rfl (by decide +kernel)) ?_
  refine ak (ok_iald kd8 (by decide) (by decide +kernel)) ?_
  refine ak (ok_i2l (by decide +kernel)) ?_
  refine ak (ok_lcmp (by decide +kernel)) ?_
  refine ak (ok_if_le (off := 5) (by decide) (by decide +kernel)) ?_
  refine ak (ok_iconst (n := 1) (by decide) (by decide +kernel)) ?_
  refine ak (ok_zreturn rfl (by decide +kernel)) ?_
  refine ak (ok_iinc (n := 1) (by decide) (by decide) (by decide +kernel)) ?_
  refine ak (ok_goto (off := (-51)) (by decide) (by decide +kernel)) ?_
  refine ak (ok_iinc (n := 1) (by decide) (by decide) (by decide +kernel)) ?_
  refine ak (ok_goto (off := (-67)) (by decide) (by decide +kernel)) ?_
  refine ak (ok_iconst (n := 0) (by decide) (by decide +kernel)) ?_
  refine ak (ok_zreturn rfl (by decide +kernel)) ?_
  exact trivial
def KW_rowsAboveCost_12 (j2 : Nat → Int32 → Mem → Option (Int32 × Mem)) (j12 : Nat → Int32 → Int32 → Mem → Option (Int32 × Mem)) : Jm (Int32 × Mem) := fun t als st M =>
  if t = 2 then (match als, st with
  | [.inr (.inr (.inl (al0, w0, cl0))), .inl x1, _, _, _], [] => if al0 = 1 ∧ cl0 = 0 then j2 w0 x1 M else none
  | _, _ => none) else
  if t = 12 then (match als, st with
  | [.inr (.inr (.inl (al0, w0, cl0))), .inl x1, .inl x2, _, _], [] => if al0 = 1 ∧ cl0 = 0 then j12 w0 x1 x2 M else none
  | _, _ => none) else
  none
set_option maxRecDepth 1000000 in
theorem eW_rowsAboveCost_12 (j2 : Nat → Int32 → Mem → Option (Int32 × Mem)) (j12 : Nat → Int32 → Int32 → Mem → Option (Int32 × Mem)) (w0 : Nat) (x1 : Int32) (x2 : Int32) (M : Mem) (u3 u4 : AV) : run (cW_rowsAboveCost) (KW_rowsAboveCost_12 j2 j12) rtI 400 (seek (cW_rowsAboveCost) 12) [aR (1, w0, 0), aI x1, aI x2, u3, u4] [] M = mW_rowsAboveCost_12b j2 j12 w0 x1 x2 M := id rfl
theorem lW_rowsAboveCost_12 {E : EV} {l : Launch} {p : Program} {e : Env} {s : State} {m : MethodId} {args : Array Value} {below : List Frame} {meth : Method} {c : Code} (A : AllOK E l 1 "FreeLances$World" prog_11_method_31_code 5 (some .boolean) outI (cW_rowsAboveCost)) (C : Cx E p s m args meth c "FreeLances$World" prog_11_method_31_code 5 (some .boolean)) {r2 : Nat → Int32 → Mem → Option (Int32 × Mem)} (H2 : ∀ (w0 : Nat) (x1 : Int32) (M : Mem) (res : (Int32 × Mem)), r2 w0 x1 M = some res → ∀ (u2 u3 u4 : AV), Wm E p l e 1 s m args below meth c 5 2 [aR (1, w0, 0), aI x1, u2, u3, u4] [] M (outI res).1 (outI res).2) : ∀ (n : Nat), ∀ (w0 : Nat) (x1 : Int32) (x2 : Int32) (M : Mem) (res : (Int32 × Mem)), mW_rowsAboveCost_12 r2 n w0 x1 x2 M = some res → ∀ (u3 u4 : AV), Wm E p l e 1 s m args below meth c 5 12 [aR (1, w0, 0), aI x1, aI x2, u3, u4] [] M (outI res).1 (outI res).2 := by
  intro n
  induction n with
  | zero => intro _ _ _ M res h; cases h
  | succ n ih =>
    intro w0 x1 x2 M res h u3 u4
    refine run_at C A rfl hrtI (n := 400) ((eW_rowsAboveCost_12 r2 (mW_rowsAboveCost_12 r2 n) w0 x1 x2 M u3 u4).trans h) ?_
    intro t als st M hk
    unfold KW_rowsAboveCost_12 at hk
    split at hk
    · rename_i ht
      subst ht
      split at hk
      · split at hk
        · rename_i hc
          obtain ⟨rfl, rfl⟩ := hc
          exact H2 _ _ _ _ hk _ _ _
        · cases hk
      · cases hk
    split at hk
    · rename_i ht
      subst ht
      split at hk
      · split at hk
        · rename_i hc
          obtain ⟨rfl, rfl⟩ := hc
          exact ih _ _ _ _ _ hk _ _
        · cases hk
      · cases hk
    cases hk
def KW_rowsAboveCost_2 (j12 : Nat → Int32 → Int32 → Mem → Option (Int32 × Mem)) : Jm (Int32 × Mem) := fun t als st M =>
  if t = 12 then (match als, st with
  | [.inr (.inr (.inl (al0, w0, cl0))), .inl x1, .inl x2, _, _], [] => if al0 = 1 ∧ cl0 = 0 then j12 w0 x1 x2 M else none
  | _, _ => none) else
  none
set_option maxRecDepth 1000000 in
theorem eW_rowsAboveCost_2 (j12 : Nat → Int32 → Int32 → Mem → Option (Int32 × Mem)) (w0 : Nat) (x1 : Int32) (M : Mem) (u2 u3 u4 : AV) : run (cW_rowsAboveCost) (KW_rowsAboveCost_2 j12) rtI 400 (seek (cW_rowsAboveCost) 2) [aR (1, w0, 0), aI x1, u2, u3, u4] [] M = mW_rowsAboveCost_2b j12 w0 x1 M := id rfl
theorem lW_rowsAboveCost_2 {E : EV} {l : Launch} {p : Program} {e : Env} {s : State} {m : MethodId} {args : Array Value} {below : List Frame} {meth : Method} {c : Code} (A : AllOK E l 1 "FreeLances$World" prog_11_method_31_code 5 (some .boolean) outI (cW_rowsAboveCost)) (C : Cx E p s m args meth c "FreeLances$World" prog_11_method_31_code 5 (some .boolean)) : ∀ (n : Nat), ∀ (w0 : Nat) (x1 : Int32) (M : Mem) (res : (Int32 × Mem)), mW_rowsAboveCost_2 n w0 x1 M = some res → ∀ (u2 u3 u4 : AV), Wm E p l e 1 s m args below meth c 5 2 [aR (1, w0, 0), aI x1, u2, u3, u4] [] M (outI res).1 (outI res).2 := by
  intro n
  induction n with
  | zero => intro _ _ M res h; cases h
  | succ n ih =>
    intro w0 x1 M res h u2 u3 u4
    refine run_at C A rfl hrtI (n := 400) ((eW_rowsAboveCost_2 (mW_rowsAboveCost_12 (mW_rowsAboveCost_2 n) fuel) w0 x1 M u2 u3 u4).trans h) ?_
    intro t als st M hk
    unfold KW_rowsAboveCost_2 at hk
    split at hk
    · rename_i ht
      subst ht
      split at hk
      · split at hk
        · rename_i hc
          obtain ⟨rfl, rfl⟩ := hc
          exact lW_rowsAboveCost_12 A C ih _ _ _ _ _ _ hk _ _
        · cases hk
      · cases hk
    cases hk
def KW_rowsAboveCost (j2 : Nat → Int32 → Mem → Option (Int32 × Mem)) : Jm (Int32 × Mem) := fun t als st M =>
  if t = 2 then (match als, st with
  | [.inr (.inr (.inl (al0, w0, cl0))), .inl x1, _, _, _], [] => if al0 = 1 ∧ cl0 = 0 then j2 w0 x1 M else none
  | _, _ => none) else
  none
set_option maxRecDepth 1000000 in
theorem eW_rowsAboveCost (j2 : Nat → Int32 → Mem → Option (Int32 × Mem)) (w0 : Nat) (M : Mem) : run (cW_rowsAboveCost) (KW_rowsAboveCost j2) rtI 400 (seek (cW_rowsAboveCost) 0) [aR (1, w0, 0), aU, aU, aU, aU] [] M = mW_rowsAboveCostb j2 w0 M := id rfl
theorem lW_rowsAboveCost {E : EV} {l : Launch} {p : Program} {e : Env} {s : State} {m : MethodId} {args : Array Value} {below : List Frame} {meth : Method} {c : Code} (A : AllOK E l 1 "FreeLances$World" prog_11_method_31_code 5 (some .boolean) outI (cW_rowsAboveCost)) (C : Cx E p s m args meth c "FreeLances$World" prog_11_method_31_code 5 (some .boolean)) : ∀ (w0 : Nat) (M : Mem) (res : (Int32 × Mem)), mW_rowsAboveCost w0 M = some res → Wm E p l e 1 s m args below meth c 5 0 [aR (1, w0, 0), aU, aU, aU, aU] [] M (outI res).1 (outI res).2 := by
  intro w0 M res h
  refine run_at C A rfl hrtI (n := 400) ((eW_rowsAboveCost (mW_rowsAboveCost_2 fuel) w0 M).trans h) ?_
  intro t als st M hk
  unfold KW_rowsAboveCost at hk
  split at hk
  · rename_i ht
    subst ht
    split at hk
    · split at hk
      · rename_i hc
        obtain ⟨rfl, rfl⟩ := hc
        exact lW_rowsAboveCost_2 A C _ _ _ _ _ hk _ _ _
      · cases hk
    · cases hk
  cases hk
def dW_rowsAboveCost {β : Type} : Den β := fun as M k => match as with
  | [.inr (.inr (.inl (al0, w0, cl0)))] => if al0 = 1 ∧ cl0 = 0 then (mW_rowsAboveCost w0 M).bind fun q => k (aI q.1) q.2 else none
  | _ => none
theorem wW_rowsAboveCost {E : EV} (hsd : E.2.2.2 = 0) (l : Launch) (w0 : Nat) (M : Mem) (q : (Int32 × Mem)) (hq : mW_rowsAboveCost w0 M = some q) : Con E l 1 yW_rowsAboveCost prog_11_method_31_code 5 (some .boolean) [aR (1, w0, 0)] M (outI q).1 (outI q).2 := by
  refine con_of iW_rowsAboveCost (Nat.le_of_ble_eq_true rfl) ?_
  intro p e s m args below meth c C
  exact lW_rowsAboveCost (oW_rowsAboveCost hsd l) C w0 M _ hq
theorem kW_rowsAboveCost {E : EV} (hsd : E.2.2.2 = 0) (l : Launch) {β : Type} : DenOK E l 1 yW_rowsAboveCost prog_11_method_31_code 5 (some .boolean) true (dW_rowsAboveCost (β := β)) := by
  intro as M k res h
  unfold dW_rowsAboveCost at h
  split at h
  ·
    split at h
    · rename_i hc
      obtain ⟨rfl, rfl⟩ := hc
      obtain ⟨q, hq, hk⟩ := Option.bind_eq_some_iff.mp h
      exact ⟨aI q.1, q.2, hk, rfl, wW_rowsAboveCost hsd l _ M q hq⟩
    · cases h
  · cases h
theorem qW_rowsAboveCost {β : Type} : RecOK 1 (dW_rowsAboveCost (β := β)) := by
  intro as M k res h
  unfold dW_rowsAboveCost at h
  split at h
  ·
    split at h
    · rename_i hc
      obtain ⟨rfl, rfl⟩ := hc
      exact ⟨_, _, _, rfl⟩
    · cases h
  · cases h
/-! ===== FreeLances$World.rowsTogether()J ===== -/
abbrev yW_rowsTogether : MethodName := ⟨"FreeLances$World", "rowsTogether", "()J"⟩
theorem iW_rowsTogether : MI yW_rowsTogether prog_11_method_32_code 4 (some .long) 0 := ⟨tw1210, tw98, ⟨by decide, by decide⟩, by decide +kernel, by decide, by decide⟩
def cW_rowsTogether : List (Ent (Int64 × Mem)) := [(false, 0, 1, sCL 0),
  (false, 1, 1, sStL 1),
  (false, 2, 1, sC 0),
  (false, 3, 1, sStI 3),
  (true, 4, 1, sLdI 3),
  (false, 5, 1, sLdA 0),
  (false, 6, 3, sGet 1 (fun w i M => aI (M 1 w i 6))),
  (false, 9, 1, sLdA 0),
  (false, 10, 3, sGet 1 (fun w i M => aI (M 1 w i 2))),
  (false, 13, 1, sBin (fun x y => x + y)),
  (false, 14, 3, sCmpGe 33),
  (false, 17, 1, sLdL 1),
  (false, 18, 1, sLdA 0),
  (false, 19, 3, sGet 1 (fun w i M => aR (16, w, 0))),
  (false, 22, 1, sLdI 3),
  (false, 23, 1, sIald 16 20),
  (false, 24, 1, sI2L),
  (false, 25, 1, sBinL (fun x y => x + y)),
  (false, 26, 1, sStL 1),
  (false, 27, 3, sInc 3 1),
  (false, 30, 3, sGoto 4),
  (false, 33, 1, sLdL 1),
  (false, 34, 1, sRetL)]
theorem oW_rowsTogether {E : EV} (hsd : E.2.2.2 = 0) (l : Launch) : AllOK E l 1 "FreeLances$World" prog_11_method_32_code 4 (some .long) outL (cW_rowsTogether) := by
  refine ak (ok_lconst (n := 0) (by decide) (by decide +kernel)) ?_
  refine ak (ok_lstore_n (k := 1) rfl (by decide) (by decide +kernel)) ?_
  refine ak (ok_iconst (n := 0) (by decide) (by decide +kernel)) ?_
  refine ak (ok_istore_n (k := 3) rfl (by decide) (by decide +kernel)) ?_
  refine ak (ok_iload_n (k := 3) rfl (by decide +kernel)) ?_
  refine ak (ok_aload_n (k := 0) rfl (by decide +kernel)) ?_
  refine ak (ok_get (k := 6) ck9 kd1 (by decide) (fun _ _ _ => rfl) (fun _ _ _ _ _ => trivial) tw399 (by decide +kernel)) ?_
  refine ak (ok_aload_n (k := 0) rfl (by decide +kernel)) ?_
  refine ak (ok_get (k := 2) ck9 kd1 (by decide) (fun _ _ _ => rfl) (fun _ _ _ _ _ => trivial) tw390 (by decide +kernel)) ?_
  refine ak (ok_iadd (by decide +kernel)) ?_
  refine ak (ok_icmp_ge (off := 19) (by decide) (by decide +kernel)) ?_
  refine ak (ok_lload_n (k := 1) rfl (by decide +kernel)) ?_
  refine ak (ok_aload_n (k := 0) rfl (by decide +kernel)) ?_
  refine ak (ok_get (k := 15) ck9 kd1 (by decide) (fun _ _ _ => rfl) (vf_1_15 hsd) tw418 (by decide +kernel)) ?_
  refine ak (ok_iload_n (k := 3) rfl (by decide +kernel)) ?_
  refine ak (ok_iald kd16 (by decide) (by decide +kernel)) ?_
  refine ak (ok_i2l (by decide +kernel)) ?_
  refine ak (ok_ladd (by decide +kernel)) ?_
  refine ak (ok_lstore_n (k := 1) rfl (by decide) (by decide +kernel)) ?_
  refine ak (ok_iinc (n := 1) (by decide) (by decide) (by decide +kernel)) ?_
  refine ak (ok_goto (off := (-26)) (by decide) (by decide +kernel)) ?_
  refine ak (ok_lload_n (k := 1) rfl (by decide +kernel)) ?_
  refine ak (ok_lreturn rfl (by decide +kernel)) ?_
  exact trivial
def KW_rowsTogether_4 (j4 : Nat → Int64 → Int32 → Mem → Option (Int64 × Mem)) : Jm (Int64 × Mem) := fun t als st M =>
  if t = 4 then (match als, st with
  | [.inr (.inr (.inl (al0, w0, cl0))), .inr (.inl x1), _, .inl x3], [] => if al0 = 1 ∧ cl0 = 0 then j4 w0 x1 x3 M else none
  | _, _ => none) else
  none
set_option maxRecDepth 1000000 in
theorem eW_rowsTogether_4 (j4 : Nat → Int64 → Int32 → Mem → Option (Int64 × Mem)) (w0 : Nat) (x1 : Int64) (x3 : Int32) (M : Mem) (u2 : AV) : run (cW_rowsTogether) (KW_rowsTogether_4 j4) rtL 400 (seek (cW_rowsTogether) 4) [aR (1, w0, 0), aL x1, u2, aI x3] [] M = mW_rowsTogether_4b j4 w0 x1 x3 M := id rfl
theorem lW_rowsTogether_4 {E : EV} {l : Launch} {p : Program} {e : Env} {s : State} {m : MethodId} {args : Array Value} {below : List Frame} {meth : Method} {c : Code} (A : AllOK E l 1 "FreeLances$World" prog_11_method_32_code 4 (some .long) outL (cW_rowsTogether)) (C : Cx E p s m args meth c "FreeLances$World" prog_11_method_32_code 4 (some .long)) : ∀ (n : Nat), ∀ (w0 : Nat) (x1 : Int64) (x3 : Int32) (M : Mem) (res : (Int64 × Mem)), mW_rowsTogether_4 n w0 x1 x3 M = some res → ∀ (u2 : AV), Wm E p l e 1 s m args below meth c 4 4 [aR (1, w0, 0), aL x1, u2, aI x3] [] M (outL res).1 (outL res).2 := by
  intro n
  induction n with
  | zero => intro _ _ _ M res h; cases h
  | succ n ih =>
    intro w0 x1 x3 M res h u2
    refine run_at C A rfl hrtL (n := 400) ((eW_rowsTogether_4 (mW_rowsTogether_4 n) w0 x1 x3 M u2).trans h) ?_
    intro t als st M hk
    unfold KW_rowsTogether_4 at hk
    split at hk
    · rename_i ht
      subst ht
      split at hk
      · split at hk
        · rename_i hc
          obtain ⟨rfl, rfl⟩ := hc
          exact ih _ _ _ _ _ hk _
        · cases hk
      · cases hk
    cases hk
def KW_rowsTogether (j4 : Nat → Int64 → Int32 → Mem → Option (Int64 × Mem)) : Jm (Int64 × Mem) := fun t als st M =>
  if t = 4 then (match als, st with
  | [.inr (.inr (.inl (al0, w0, cl0))), .inr (.inl x1), _, .inl x3], [] => if al0 = 1 ∧ cl0 = 0 then j4 w0 x1 x3 M else none
  | _, _ => none) else
  none
set_option maxRecDepth 1000000 in
theorem eW_rowsTogether (j4 : Nat → Int64 → Int32 → Mem → Option (Int64 × Mem)) (w0 : Nat) (M : Mem) : run (cW_rowsTogether) (KW_rowsTogether j4) rtL 400 (seek (cW_rowsTogether) 0) [aR (1, w0, 0), aU, aU, aU] [] M = mW_rowsTogetherb j4 w0 M := id rfl
theorem lW_rowsTogether {E : EV} {l : Launch} {p : Program} {e : Env} {s : State} {m : MethodId} {args : Array Value} {below : List Frame} {meth : Method} {c : Code} (A : AllOK E l 1 "FreeLances$World" prog_11_method_32_code 4 (some .long) outL (cW_rowsTogether)) (C : Cx E p s m args meth c "FreeLances$World" prog_11_method_32_code 4 (some .long)) : ∀ (w0 : Nat) (M : Mem) (res : (Int64 × Mem)), mW_rowsTogether w0 M = some res → Wm E p l e 1 s m args below meth c 4 0 [aR (1, w0, 0), aU, aU, aU] [] M (outL res).1 (outL res).2 := by
  intro w0 M res h
  refine run_at C A rfl hrtL (n := 400) ((eW_rowsTogether (mW_rowsTogether_4 fuel) w0 M).trans h) ?_
  intro t als st M hk
  unfold KW_rowsTogether at hk
  split at hk
  · rename_i ht
    subst ht
    split at hk
    · split at hk
      · rename_i hc
        obtain ⟨rfl, rfl⟩ := hc
        exact lW_rowsTogether_4 A C _ _ _ _ _ _ hk _
      · cases hk
    · cases hk
  cases hk
def dW_rowsTogether {β : Type} : Den β := fun as M k => match as with
  | [.inr (.inr (.inl (al0, w0, cl0)))] => if al0 = 1 ∧ cl0 = 0 then (mW_rowsTogether w0 M).bind fun q => k (aL q.1) q.2 else none
  | _ => none
theorem wW_rowsTogether {E : EV} (hsd : E.2.2.2 = 0) (l : Launch) (w0 : Nat) (M : Mem) (q : (Int64 × Mem)) (hq : mW_rowsTogether w0 M = some q) : Con E l 1 yW_rowsTogether prog_11_method_32_code 4 (some .long) [aR (1, w0, 0)] M (outL q).1 (outL q).2 := by
  refine con_of iW_rowsTogether (Nat.le_of_ble_eq_true rfl) ?_
  intro p e s m args below meth c C
  exact lW_rowsTogether (oW_rowsTogether hsd l) C w0 M _ hq
theorem kW_rowsTogether {E : EV} (hsd : E.2.2.2 = 0) (l : Launch) {β : Type} : DenOK E l 1 yW_rowsTogether prog_11_method_32_code 4 (some .long) true (dW_rowsTogether (β := β)) := by
  intro as M k res h
  unfold dW_rowsTogether at h
  split at h
  ·
    split at h
    · rename_i hc
      obtain ⟨rfl, rfl⟩ := hc
      obtain ⟨q, hq, hk⟩ := Option.bind_eq_some_iff.mp h
      exact ⟨aL q.1, q.2, hk, rfl, wW_rowsTogether hsd l _ M q hq⟩
    · cases h
  · cases h
theorem qW_rowsTogether {β : Type} : RecOK 1 (dW_rowsTogether (β := β)) := by
  intro as M k res h
  unfold dW_rowsTogether at h
  split at h
  ·
    split at h
    · rename_i hc
      obtain ⟨rfl, rfl⟩ := hc
      exact ⟨_, _, _, rfl⟩
    · cases h
  · cases h
