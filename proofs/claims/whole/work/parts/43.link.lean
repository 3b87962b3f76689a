/-! ===== FreeLancesModel.tellsOf(II)I ===== -/
abbrev yK_tellsOf : MethodName := ⟨"FreeLancesModel", "tellsOf", "(II)I"⟩
theorem iK_tellsOf : MI yK_tellsOf prog_13_method_112_code 4 (some .int) 2 := ⟨tw1762, tw108, ⟨by decide, by decide⟩, by decide +kernel, by decide, by decide⟩
def cK_tellsOf : List (Ent (Int32 × Mem)) := [(false, 0, 1, sLdA 0),
  (false, 1, 1, sLdI 1),
  (false, 2, 1, sC 0),
  (false, 3, 3, sInv 3 true dK_bond),
  (false, 6, 1, sC 4),
  (false, 7, 3, sCmpNe 25),
  (false, 10, 1, sLdA 0),
  (false, 11, 2, sC 50),
  (false, 13, 3, sInv 2 false dK_ran),
  (false, 16, 1, sLdA 0),
  (false, 17, 1, sLdI 1),
  (false, 18, 1, sLdI 2),
  (false, 19, 3, sInv 3 true dK_tellsBond),
  (false, 22, 1, sC 1),
  (false, 23, 1, sBin (fun x y => x - y)),
  (false, 24, 1, sRetI),
  (false, 25, 1, sLdA 0),
  (false, 26, 1, sLdI 1),
  (false, 27, 1, sC 0),
  (false, 28, 3, sInv 3 true dK_bond),
  (false, 31, 2, sC 6),
  (false, 33, 3, sCmpEq 43),
  (false, 36, 1, sLdA 0),
  (false, 37, 1, sLdI 1),
  (false, 38, 1, sLdI 2),
  (false, 39, 3, sInv 3 true dK_tellsBond),
  (false, 42, 1, sRetI),
  (false, 43, 1, sLdA 0),
  (false, 44, 2, sC 70),
  (false, 46, 3, sInv 2 false dK_ran),
  (false, 49, 1, sLdA 0),
  (false, 50, 1, sLdI 1),
  (false, 51, 1, sLdI 2),
  (false, 52, 3, sInv 3 true dK_endsOf),
  (false, 55, 1, sStI 3),
  (false, 56, 1, sLdI 3),
  (false, 57, 1, sLdA 0),
  (false, 58, 1, sLdI 1),
  (false, 59, 1, sLdI 2),
  (false, 60, 1, sC 1),
  (false, 61, 1, sBin (fun x y => x + y)),
  (false, 62, 3, sInv 3 true dK_tellsBond),
  (false, 65, 1, sBin (fun x y => x + y)),
  (false, 66, 1, sRetI)]
theorem oK_tellsOf {E : EV} (hsd : E.2.2.2 = 1) (l : Launch) : AllOK E l 8 "FreeLancesModel" prog_13_method_112_code 4 (some .int) outI (cK_tellsOf) := by
  refine ak (ok_aload_n (k := 0) rfl (by decide +kernel)) ?_
  refine ak (ok_iload_n (k := 1) rfl (by decide +kernel)) ?_
  refine ak (ok_iconst (n := 0) (by decide) (by decide +kernel)) ?_
  refine ak (ok_invV (r := 40) (kK_bond hsd l) qK_bond ck11 kd40 iK_bond tw1420 tw49 (by decide) tw1418 (by decide +kernel)) ?_
  refine ak (ok_iconst (n := 4) (by decide) (by decide +kernel)) ?_
  refine ak (ok_icmp_ne (off := 18) (by decide) (by decide +kernel)) ?_
  refine ak (ok_aload_n (k := 0) rfl (by decide +kernel)) ?_
  refine ak (ok_bipush (n := 50) (by decide) (by decide +kernel)) ?_
  refine ak (ok_invV (r := 40) (kK_ran hsd l) qK_ran ck11 kd40 iK_ran tw1733 tw87 (by decide) tw1731 (by decide +kernel)) ?_
  refine ak (ok_aload_n (k := 0) rfl (by decide +kernel)) ?_
  refine ak (ok_iload_n (k := 1) rfl (by decide +kernel)) ?_
  refine ak (ok_iload_n (k := 2) rfl (by decide +kernel)) ?_
  refine ak (ok_invV (r := 40) (kK_tellsBond hsd l) qK_tellsBond ck11 kd40 iK_tellsBond tw1765 tw95 (by decide) tw1763 (by decide +kernel)) ?_
  refine ak (ok_iconst (n := 1) (by decide) (by decide +kernel)) ?_
  refine ak (ok_isub (by decide +kernel)) ?_
  refine ak (ok_ireturn rfl (by decide +kernel)) ?_
  refine ak (ok_aload_n (k := 0) rfl (by decide +kernel)) ?_
  refine ak (ok_iload_n (k := 1) rfl (by decide +kernel)) ?_
  refine ak (ok_iconst (n := 0) (by decide) (by decide +kernel)) ?_
  refine ak (ok_invV (r := 40) (kK_bond hsd l) qK_bond ck11 kd40 iK_bond tw1420 tw49 (by decide) tw1418 (by decide +kernel)) ?_
  refine ak (ok_bipush (n := 6) (by decide) (by decide +kernel)) ?_
  refine ak (ok_icmp_eq (off := 10) (by decide) (by decide +kernel)) ?_
  refine ak (ok_aload_n (k := 0) rfl (by decide +kernel)) ?_
  refine ak (ok_iload_n (k := 1) rfl (by decide +kernel)) ?_
  refine ak (ok_iload_n (k := 2) rfl (by decide +kernel)) ?_
  refine ak (ok_invV (r := 40) (kK_tellsBond hsd l) qK_tellsBond ck11 kd40 iK_tellsBond tw1765 tw95 (by decide) tw1763 (by decide +kernel)) ?_
  refine ak (ok_ireturn rfl (by decide +kernel)) ?_
  refine ak (ok_aload_n (k := 0) rfl (by decide +kernel)) ?_
  refine ak (ok_bipush (n := 70) (by decide) (by decide +kernel)) ?_
  refine ak (ok_invV (r := 40) (kK_ran hsd l) qK_ran ck11 kd40 iK_ran tw1733 tw87 (by decide) tw1731 (by decide +kernel)) ?_
  refine ak (ok_aload_n (k := 0) rfl (by decide +kernel)) ?_
  refine ak (ok_iload_n (k := 1) rfl (by decide +kernel)) ?_
  refine ak (ok_iload_n (k := 2) rfl (by decide +kernel)) ?_
  refine ak (ok_invV (r := 40) (kK_endsOf hsd l) qK_endsOf ck11 kd40 iK_endsOf tw1749 tw91 (by decide) tw1747 (by decide +kernel)) ?_
  refine ak (ok_istore_n (k := 3) rfl (by decide) (by decide +kernel)) ?_
  refine ak (ok_iload_n (k := 3) rfl (by decide +kernel)) ?_
  refine ak (ok_aload_n (k := 0) rfl (by decide +kernel)) ?_
  refine ak (ok_iload_n (k := 1) rfl (by decide +kernel)) ?_
  refine ak (ok_iload_n (k := 2) rfl (by decide +kernel)) ?_
  refine ak (ok_iconst (n := 1) (by decide) (by decide +kernel)) ?_
  refine ak (ok_iadd (by decide +kernel)) ?_
  refine ak (ok_invV (r := 40) (kK_tellsBond hsd l) qK_tellsBond ck11 kd40 iK_tellsBond tw1765 tw95 (by decide) tw1763 (by decide +kernel)) ?_
  refine ak (ok_iadd (by decide +kernel)) ?_
  refine ak (ok_ireturn rfl (by decide +kernel)) ?_
  exact trivial
set_option maxRecDepth 1000000 in
theorem eK_tellsOf (x1 : Int32) (x2 : Int32) (M : Mem) : run (cK_tellsOf) (fun _ _ _ _ => none) rtI 400 (seek (cK_tellsOf) 0) [aR (40, 0, 0), aI x1, aI x2, aU] [] M = mK_tellsOf x1 x2 M := id rfl
theorem lK_tellsOf {E : EV} {l : Launch} {p : Program} {e : Env} {s : State} {m : MethodId} {args : Array Value} {below : List Frame} {meth : Method} {c : Code} (A : AllOK E l 8 "FreeLancesModel" prog_13_method_112_code 4 (some .int) outI (cK_tellsOf)) (C : Cx E p s m args meth c "FreeLancesModel" prog_13_method_112_code 4 (some .int)) : ∀ (x1 : Int32) (x2 : Int32) (M : Mem) (res : (Int32 × Mem)), mK_tellsOf x1 x2 M = some res → Wm E p l e 8 s m args below meth c 4 0 [aR (40, 0, 0), aI x1, aI x2, aU] [] M (outI res).1 (outI res).2 := by
  intro x1 x2 M res h
  refine run_at C A rfl hrtI (n := 400) ((eK_tellsOf x1 x2 M).trans h) ?_
  intro t als st M hk; cases hk
def dK_tellsOf {β : Type} : Den β := fun as M k => match as with
  | [.inr (.inr (.inl (al0, bl0, cl0))), .inl x1, .inl x2] => if al0 = 40 ∧ bl0 = 0 ∧ cl0 = 0 then (mK_tellsOf x1 x2 M).bind fun q => k (aI q.1) q.2 else none
  | _ => none
theorem wK_tellsOf {E : EV} (hsd : E.2.2.2 = 1) (l : Launch) (x1 : Int32) (x2 : Int32) (M : Mem) (q : (Int32 × Mem)) (hq : mK_tellsOf x1 x2 M = some q) : Con E l 8 yK_tellsOf prog_13_method_112_code 4 (some .int) [aR (40, 0, 0), aI x1, aI x2] M (outI q).1 (outI q).2 := by
  refine con_of iK_tellsOf (Nat.le_of_ble_eq_true rfl) ?_
  intro p e s m args below meth c C
  exact lK_tellsOf (oK_tellsOf hsd l) C x1 x2 M _ hq
theorem kK_tellsOf {E : EV} (hsd : E.2.2.2 = 1) (l : Launch) {β : Type} : DenOK E l 8 yK_tellsOf prog_13_method_112_code 4 (some .int) true (dK_tellsOf (β := β)) := by
  intro as M k res h
  unfold dK_tellsOf at h
  split at h
  ·
    split at h
    · rename_i hc
      obtain ⟨rfl, rfl, rfl⟩ := hc
      obtain ⟨q, hq, hk⟩ := Option.bind_eq_some_iff.mp h
      exact ⟨aI q.1, q.2, hk, rfl, wK_tellsOf hsd l _ _ M q hq⟩
    · cases h
  · cases h
theorem qK_tellsOf {β : Type} : RecOK 40 (dK_tellsOf (β := β)) := by
  intro as M k res h
  unfold dK_tellsOf at h
  split at h
  ·
    split at h
    · rename_i hc
      obtain ⟨rfl, rfl, rfl⟩ := hc
      exact ⟨_, _, _, rfl⟩
    · cases h
  · cases h
/-! ===== FreeLancesModel.voice(III)I ===== -/
abbrev yK_voice : MethodName := ⟨"FreeLancesModel", "voice", "(III)I"⟩
theorem iK_voice : MI yK_voice prog_13_method_113_code 4 (some .int) 3 := ⟨tw1726, tw108, ⟨by decide, by decide⟩, by decide +kernel, by decide, by decide⟩
def cK_voice : List (Ent (Int32 × Mem)) := [(false, 0, 1, sLdA 0),
  (false, 1, 1, sLdI 1),
  (false, 2, 3, sInv 2 true dK_isBond),
  (false, 5, 3, sIfEq 17),
  (false, 8, 1, sLdI 2),
  (false, 9, 1, sC 0),
  (false, 10, 1, sC 3),
  (false, 11, 3, sInv 3 true dK_in),
  (false, 14, 3, sIfNe 23),
  (false, 17, 1, sLdA 0),
  (false, 18, 1, sC 1),
  (false, 19, 3, sInv 2 true dK_finds),
  (false, 22, 1, sRetI),
  (false, 23, 1, sLdA 0),
  (false, 24, 1, sC 0),
  (false, 25, 3, sPut 40 22),
  (false, 28, 1, sLdI 2),
  (false, 29, 3, sIfNe 41),
  (false, 32, 1, sLdA 0),
  (false, 33, 1, sLdI 1),
  (false, 34, 1, sLdI 3),
  (false, 35, 3, sInv 3 true dK_bindsOf),
  (false, 38, 3, sGoto 75),
  (false, 41, 1, sLdI 2),
  (false, 42, 1, sC 1),
  (false, 43, 3, sCmpNe 55),
  (false, 46, 1, sLdA 0),
  (false, 47, 1, sLdI 1),
  (false, 48, 1, sLdI 3),
  (false, 49, 3, sInv 3 true dK_paysOf),
  (false, 52, 3, sGoto 75),
  (false, 55, 1, sLdI 2),
  (false, 56, 1, sC 2),
  (false, 57, 3, sCmpNe 69),
  (false, 60, 1, sLdA 0),
  (false, 61, 1, sLdI 1),
  (false, 62, 1, sLdI 3),
  (false, 63, 3, sInv 3 true dK_endsOf),
  (false, 66, 3, sGoto 75),
  (false, 69, 1, sLdA 0),
  (false, 70, 1, sLdI 1),
  (false, 71, 1, sLdI 3),
  (false, 72, 3, sInv 3 true dK_tellsOf),
  (false, 75, 1, sRetI)]
theorem oK_voice {E : EV} (hsd : E.2.2.2 = 1) (l : Launch) : AllOK E l 9 "FreeLancesModel" prog_13_method_113_code 4 (some .int) outI (cK_voice) := by
  refine ak (ok_aload_n (k := 0) rfl (by decide +kernel)) ?_
  refine ak (ok_iload_n (k := 1) rfl (by decide +kernel)) ?_
  refine ak (ok_invV (r := 40) (kK_isBond hsd l) qK_isBond ck11 kd40 iK_isBond tw1551 tw67 (by decide) tw1549 (by decide +kernel)) ?_
  refine ak (ok_if_eq (off := 12) (by decide) (by decide +kernel)) ?_
  refine ak (ok_iload_n (k := 2) rfl (by decide +kernel)) ?_
  refine ak (ok_iconst (n := 0) (by decide) (by decide +kernel)) ?_
  refine ak (ok_iconst (n := 3) (by decide) (by decide +kernel)) ?_
  refine ak (ok_invS (kK_in hsd l) iK_in tw1330 (by decide) tw1329 (by decide +kernel)) ?_
  refine ak (ok_if_ne (off := 9) (by decide) (by decide +kernel)) ?_
  refine ak (ok_aload_n (k := 0) rfl (by decide +kernel)) ?_
  refine ak (ok_iconst (n := 1) (by decide) (by decide +kernel)) ?_
  refine ak (ok_invV (r := 40) (kK_finds hsd l) qK_finds ck11 kd40 iK_finds tw1334 tw37 (by decide) tw1332 (by decide +kernel)) ?_
  refine ak (ok_ireturn rfl (by decide +kernel)) ?_
  refine ak (ok_aload_n (k := 0) rfl (by decide +kernel)) ?_
  refine ak (ok_iconst (n := 0) (by decide) (by decide +kernel)) ?_
  refine ak (ok_put (k := 22) ck11 kd40 (by decide) (fun _ _ _ => rfl) rfl rfl (by decide) tw1264 (by decide +kernel)) ?_
  refine ak (ok_iload_n (k := 2) rfl (by decide +kernel)) ?_
  refine ak (ok_if_ne (off := 12) (by decide) (by decide +kernel)) ?_
  refine ak (ok_aload_n (k := 0) rfl (by decide +kernel)) ?_
  refine ak (ok_iload_n (k := 1) rfl (by decide +kernel)) ?_
  refine ak (ok_iload_n (k := 3) rfl (by decide +kernel)) ?_
  refine ak (ok_invV (r := 40) (kK_bindsOf hsd l) qK_bindsOf ck11 kd40 iK_bindsOf tw1729 tw86 (by decide) tw1727 (by decide +kernel)) ?_
  refine ak (ok_goto (off := 37) (by decide) (by decide +kernel)) ?_
  refine ak (ok_iload_n (k := 2) rfl (by decide +kernel)) ?_
  refine ak (ok_iconst (n := 1) (by decide) (by decide +kernel)) ?_
  refine ak (ok_icmp_ne (off := 12) (by decide) (by decide +kernel)) ?_
  refine ak (ok_aload_n (k := 0) rfl (by decide +kernel)) ?_
  refine ak (ok_iload_n (k := 1) rfl (by decide +kernel)) ?_
  refine ak (ok_iload_n (k := 3) rfl (by decide +kernel)) ?_
  refine ak (ok_invV (r := 40) (kK_paysOf hsd l) qK_paysOf ck11 kd40 iK_paysOf tw1741 tw89 (by decide) tw1739 (by decide +kernel)) ?_
  refine ak (ok_goto (off := 23) (by decide) (by decide +kernel)) ?_
  refine ak (ok_iload_n (k := 2) rfl (by decide +kernel)) ?_
  refine ak (ok_iconst (n := 2) (by decide) (by decide +kernel)) ?_
  refine ak (ok_icmp_ne (off := 12) (by decide) (by decide +kernel)) ?_
  refine ak (ok_aload_n (k := 0) rfl (by decide +kernel)) ?_
  refine ak (ok_iload_n (k := 1) rfl (by decide +kernel)) ?_
  refine ak (ok_iload_n (k := 3) rfl (by decide +kernel)) ?_
  refine ak (ok_invV (r := 40) (kK_endsOf hsd l) qK_endsOf ck11 kd40 iK_endsOf tw1749 tw91 (by decide) tw1747 (by decide +kernel)) ?_
  refine ak (ok_goto (off := 9) (by decide) (by decide +kernel)) ?_
  refine ak (ok_aload_n (k := 0) rfl (by decide +kernel)) ?_
  refine ak (ok_iload_n (k := 1) rfl (by decide +kernel)) ?_
  refine ak (ok_iload_n (k := 3) rfl (by decide +kernel)) ?_
  refine ak (ok_invV (r := 40) (kK_tellsOf hsd l) qK_tellsOf ck11 kd40 iK_tellsOf tw1761 tw94 (by decide) tw1759 (by decide +kernel)) ?_
  refine ak (ok_ireturn rfl (by decide +kernel)) ?_
  exact trivial
set_option maxRecDepth 1000000 in
theorem eK_voice (x1 : Int32) (x2 : Int32) (x3 : Int32) (M : Mem) : run (cK_voice) (fun _ _ _ _ => none) rtI 400 (seek (cK_voice) 0) [aR (40, 0, 0), aI x1, aI x2, aI x3] [] M = mK_voice x1 x2 x3 M := id rfl
theorem lK_voice {E : EV} {l : Launch} {p : Program} {e : Env} {s : State} {m : MethodId} {args : Array Value} {below : List Frame} {meth : Method} {c : Code} (A : AllOK E l 9 "FreeLancesModel" prog_13_method_113_code 4 (some .int) outI (cK_voice)) (C : Cx E p s m args meth c "FreeLancesModel" prog_13_method_113_code 4 (some .int)) : ∀ (x1 : Int32) (x2 : Int32) (x3 : Int32) (M : Mem) (res : (Int32 × Mem)), mK_voice x1 x2 x3 M = some res → Wm E p l e 9 s m args below meth c 4 0 [aR (40, 0, 0), aI x1, aI x2, aI x3] [] M (outI res).1 (outI res).2 := by
  intro x1 x2 x3 M res h
  refine run_at C A rfl hrtI (n := 400) ((eK_voice x1 x2 x3 M).trans h) ?_
  intro t als st M hk; cases hk
def dK_voice {β : Type} : Den β := fun as M k => match as with
  | [.inr (.inr (.inl (al0, bl0, cl0))), .inl x1, .inl x2, .inl x3] => if al0 = 40 ∧ bl0 = 0 ∧ cl0 = 0 then (mK_voice x1 x2 x3 M).bind fun q => k (aI q.1) q.2 else none
  | _ => none
theorem wK_voice {E : EV} (hsd : E.2.2.2 = 1) (l : Launch) (x1 : Int32) (x2 : Int32) (x3 : Int32) (M : Mem) (q : (Int32 × Mem)) (hq : mK_voice x1 x2 x3 M = some q) : Con E l 9 yK_voice prog_13_method_113_code 4 (some .int) [aR (40, 0, 0), aI x1, aI x2, aI x3] M (outI q).1 (outI q).2 := by
  refine con_of iK_voice (Nat.le_of_ble_eq_true rfl) ?_
  intro p e s m args below meth c C
  exact lK_voice (oK_voice hsd l) C x1 x2 x3 M _ hq
theorem kK_voice {E : EV} (hsd : E.2.2.2 = 1) (l : Launch) {β : Type} : DenOK E l 9 yK_voice prog_13_method_113_code 4 (some .int) true (dK_voice (β := β)) := by
  intro as M k res h
  unfold dK_voice at h
  split at h
  ·
    split at h
    · rename_i hc
      obtain ⟨rfl, rfl, rfl⟩ := hc
      obtain ⟨q, hq, hk⟩ := Option.bind_eq_some_iff.mp h
      exact ⟨aI q.1, q.2, hk, rfl, wK_voice hsd l _ _ _ M q hq⟩
    · cases h
  · cases h
theorem qK_voice {β : Type} : RecOK 40 (dK_voice (β := β)) := by
  intro as M k res h
  unfold dK_voice at h
  split at h
  ·
    split at h
    · rename_i hc
      obtain ⟨rfl, rfl, rfl⟩ := hc
      exact ⟨_, _, _, rfl⟩
    · cases h
  · cases h
/-! ===== FreeLancesModel.trace(I)I ===== -/
abbrev yK_trace : MethodName := ⟨"FreeLancesModel", "trace", "(I)I"⟩
theorem iK_trace : MI yK_trace prog_13_method_114_code 2 (some .int) 1 := ⟨tw1770, tw108, ⟨by decide, by decide⟩, by decide +kernel, by decide, by decide⟩
def cK_trace : List (Ent (Int32 × Mem)) := [(false, 0, 1, sLdI 1),
  (false, 1, 1, sC 0),
  (false, 2, 1, sLdA 0),
  (false, 3, 3, sGet 40 (fun w i M => aI (M 40 w i 22))),
  (false, 6, 1, sC 1),
  (false, 7, 1, sBin (fun x y => x - y)),
  (false, 8, 3, sInv 3 true dK_in),
  (false, 11, 3, sIfEq 23),
  (false, 14, 1, sLdA 0),
  (false, 15, 3, sGet 40 (fun w i M => aR (62, 0, 0))),
  (false, 18, 1, sLdI 1),
  (false, 19, 1, sIald 62 40),
  (false, 20, 3, sGoto 28),
  (false, 23, 1, sLdA 0),
  (false, 24, 1, sC 2),
  (false, 25, 3, sInv 2 true dK_finds),
  (false, 28, 1, sRetI)]
theorem oK_trace {E : EV} (hsd : E.2.2.2 = 1) (l : Launch) : AllOK E l 2 "FreeLancesModel" prog_13_method_114_code 2 (some .int) outI (cK_trace) := by
  refine ak (ok_iload_n (k := 1) rfl (by decide +kernel)) ?_
  refine ak (ok_iconst (n := 0) (by decide) (by decide +kernel)) ?_
  refine ak (ok_aload_n (k := 0) rfl (by decide +kernel)) ?_
  refine ak (ok_get (k := 22) ck11 kd40 (by decide) (fun _ _ _ => rfl) (fun _ _ _ _ _ => trivial) tw1264 (by decide +kernel)) ?_
  refine ak (ok_iconst (n := 1) (by decide) (by decide +kernel)) ?_
  refine ak (ok_isub (by decide +kernel)) ?_
  refine ak (ok_invS (kK_in hsd l) iK_in tw1330 (by decide) tw1329 (by decide +kernel)) ?_
  refine ak (ok_if_eq (off := 12) (by decide) (by decide +kernel)) ?_
  refine ak (ok_aload_n (k := 0) rfl (by decide +kernel)) ?_
  refine ak (ok_get (k := 21) ck11 kd40 (by decide) (fun _ _ _ => rfl) (vf_40_21 hsd) tw1263 (by decide +kernel)) ?_
  refine ak (ok_iload_n (k := 1) rfl (by decide +kernel)) ?_
  refine ak (ok_iald kd62 (by decide) (by decide +kernel)) ?_
  refine ak (ok_goto (off := 8) (by decide) (by decide +kernel)) ?_
  refine ak (ok_aload_n (k := 0) rfl (by decide +kernel)) ?_
  refine ak (ok_iconst (n := 2) (by decide) (by decide +kernel)) ?_
  refine ak (ok_invV (r := 40) (kK_finds hsd l) qK_finds ck11 kd40 iK_finds tw1334 tw37 (by decide) tw1332 (by decide +kernel)) ?_
  refine ak (ok_ireturn rfl (by decide +kernel)) ?_
  exact trivial
set_option maxRecDepth 1000000 in
theorem eK_trace (x1 : Int32) (M : Mem) : run (cK_trace) (fun _ _ _ _ => none) rtI 400 (seek (cK_trace) 0) [aR (40, 0, 0), aI x1] [] M = mK_trace x1 M := id rfl
theorem lK_trace {E : EV} {l : Launch} {p : Program} {e : Env} {s : State} {m : MethodId} {args : Array Value} {below : List Frame} {meth : Method} {c : Code} (A : AllOK E l 2 "FreeLancesModel" prog_13_method_114_code 2 (some .int) outI (cK_trace)) (C : Cx E p s m args meth c "FreeLancesModel" prog_13_method_114_code 2 (some .int)) : ∀ (x1 : Int32) (M : Mem) (res : (Int32 × Mem)), mK_trace x1 M = some res → Wm E p l e 2 s m args below meth c 2 0 [aR (40, 0, 0), aI x1] [] M (outI res).1 (outI res).2 := by
  intro x1 M res h
  refine run_at C A rfl hrtI (n := 400) ((eK_trace x1 M).trans h) ?_
  intro t als st M hk; cases hk
def dK_trace {β : Type} : Den β := fun as M k => match as with
  | [.inr (.inr (.inl (al0, bl0, cl0))), .inl x1] => if al0 = 40 ∧ bl0 = 0 ∧ cl0 = 0 then (mK_trace x1 M).bind fun q => k (aI q.1) q.2 else none
  | _ => none
theorem wK_trace {E : EV} (hsd : E.2.2.2 = 1) (l : Launch) (x1 : Int32) (M : Mem) (q : (Int32 × Mem)) (hq : mK_trace x1 M = some q) : Con E l 2 yK_trace prog_13_method_114_code 2 (some .int) [aR (40, 0, 0), aI x1] M (outI q).1 (outI q).2 := by
  refine con_of iK_trace (Nat.le_of_ble_eq_true rfl) ?_
  intro p e s m args below meth c C
  exact lK_trace (oK_trace hsd l) C x1 M _ hq
theorem kK_trace {E : EV} (hsd : E.2.2.2 = 1) (l : Launch) {β : Type} : DenOK E l 2 yK_trace prog_13_method_114_code 2 (some .int) true (dK_trace (β := β)) := by
  intro as M k res h
  unfold dK_trace at h
  split at h
  ·
    split at h
    · rename_i hc
      obtain ⟨rfl, rfl, rfl⟩ := hc
      obtain ⟨q, hq, hk⟩ := Option.bind_eq_some_iff.mp h
      exact ⟨aI q.1, q.2, hk, rfl, wK_trace hsd l _ M q hq⟩
    · cases h
  · cases h
theorem qK_trace {β : Type} : RecOK 40 (dK_trace (β := β)) := by
  intro as M k res h
  unfold dK_trace at h
  split at h
  ·
    split at h
    · rename_i hc
      obtain ⟨rfl, rfl, rfl⟩ := hc
      exact ⟨_, _, _, rfl⟩
    · cases h
  · cases h
/-! ===== FreeLancesModel.sheet(III)I ===== -/
abbrev yK_sheet : MethodName := ⟨"FreeLancesModel", "sheet", "(III)I"⟩
theorem iK_sheet : MI yK_sheet prog_13_method_116_code 5 (some .int) 3 := ⟨tw1774, tw108, ⟨by decide, by decide⟩, by decide +kernel, by decide, by decide⟩
def cK_sheet : List (Ent (Int32 × Mem)) := [(false, 0, 1, sLdI 1),
  (false, 1, 3, sInv 1 true dK_isSheet),
  (false, 4, 3, sIfEq 29),
  (false, 7, 1, sLdI 2),
  (false, 8, 3, sIfEq 35),
  (false, 11, 1, sLdI 2),
  (false, 12, 2, sC 8),
  (false, 14, 3, sCmpEq 35),
  (false, 17, 1, sLdI 2),
  (false, 18, 2, sC 16),
  (false, 20, 3, sCmpEq 35),
  (false, 23, 1, sLdI 2),
  (false, 24, 2, sC 32),
  (false, 26, 3, sCmpEq 35),
  (false, 29, 1, sLdA 0),
  (false, 30, 1, sC 1),
  (false, 31, 3, sInv 2 true dK_finds),
  (false, 34, 1, sRetI),
  (false, 35, 1, sLdI 2),
  (false, 36, 3, sIfEq 49),
  (false, 39, 1, sLdI 3),
  (false, 40, 3, sIfGe 49),
  (false, 43, 1, sLdA 0),
  (false, 44, 1, sC 3),
  (false, 45, 3, sInv 2 true dK_finds),
  (false, 48, 1, sRetI),
  (true, 49, 1, sLdI 2),
  (false, 50, 3, sIfEq 65),
  (false, 53, 1, sLdI 3),
  (false, 54, 2, sC 24),
  (false, 56, 3, sCmpLe 65),
  (false, 59, 1, sLdA 0),
  (false, 60, 1, sC 1),
  (false, 61, 3, sInv 2 true dK_finds),
  (false, 64, 1, sRetI),
  (false, 65, 1, sLdA 0),
  (false, 66, 3, sGet 40 (fun w i M => aR (64, 0, 0))),
  (false, 69, 1, sLdI 1),
  (false, 70, 1, sLdI 2),
  (false, 71, 1, sIast 64 4),
  (false, 72, 1, sLdA 0),
  (false, 73, 3, sGet 40 (fun w i M => aR (65, 0, 0))),
  (false, 76, 1, sLdI 1),
  (false, 77, 1, sLdI 2),
  (false, 78, 3, sIfNe 85),
  (false, 81, 1, sC 0),
  (false, 82, 3, sGoto 86),
  (false, 85, 1, sLdI 3),
  (false, 86, 1, sIast 65 4),
  (false, 87, 1, sC 0),
  (false, 88, 2, sStI 4),
  (true, 90, 2, sLdI 4),
  (false, 92, 2, sC 24),
  (false, 94, 3, sCmpGe 116),
  (false, 97, 1, sLdA 0),
  (false, 98, 3, sGet 40 (fun w i M => aR (66, 0, 0))),
  (false, 101, 2, sC 24),
  (false, 103, 1, sLdI 1),
  (false, 104, 1, sBin (fun x y => x * y)),
  (false, 105, 2, sLdI 4),
  (false, 107, 1, sBin (fun x y => x + y)),
  (false, 108, 1, sC 0),
  (false, 109, 1, sIast 66 96),
  (false, 110, 3, sInc 4 1),
  (false, 113, 3, sGoto 90),
  (false, 116, 1, sC 1),
  (false, 117, 1, sRetI)]
theorem oK_sheet {E : EV} (hsd : E.2.2.2 = 1) (l : Launch) : AllOK E l 3 "FreeLancesModel" prog_13_method_116_code 5 (some .int) outI (cK_sheet) := by
  refine ak (ok_iload_n (k := 1) rfl (by decide +kernel)) ?_
  refine ak (ok_invS (kK_isSheet hsd l) iK_isSheet tw1625 (by decide) tw1624 (by decide +kernel)) ?_
  refine ak (ok_if_eq (off := 25) (by decide) (by decide +kernel)) ?_
  refine ak (ok_iload_n (k := 2) rfl (by decide +kernel)) ?_
  refine ak (ok_if_eq (off := 27) (by decide) (by decide +kernel)) ?_
  refine ak (ok_iload_n (k := 2) rfl (by decide +kernel)) ?_
  refine ak (ok_bipush (n := 8) (by decide) (by decide +kernel)) ?_
  refine ak (ok_icmp_eq (off := 21) (by decide) (by decide +kernel)) ?_
  refine ak (ok_iload_n (k := 2) rfl (by decide +kernel)) ?_
  refine ak (ok_bipush (n := 16) (by decide) (by decide +kernel)) ?_
  refine ak (ok_icmp_eq (off := 15) (by decide) (by decide +kernel)) ?_
  refine ak (ok_iload_n (k := 2) rfl (by decide +kernel)) ?_
  refine ak (ok_bipush (n := 32) (by decide) (by decide +kernel)) ?_
  refine ak (ok_icmp_eq (off := 9) (by decide) (by decide +kernel)) ?_
  refine ak (ok_aload_n (k := 0) rfl (by decide +kernel)) ?_
  refine ak (ok_iconst (n := 1) (by decide) (by decide +kernel)) ?_
  refine ak (ok_invV (r := 40) (kK_finds hsd l) qK_finds ck11 kd40 iK_finds tw1334 tw37 (by decide) tw1332 (by decide +kernel)) ?_
  refine ak (ok_ireturn rfl (by decide +kernel)) ?_
  refine ak (ok_iload_n (k := 2) rfl (by decide +kernel)) ?_
  refine ak (ok_if_eq (off := 13) (by decide) (by decide +kernel)) ?_
  refine ak (ok_iload_n (k := 3) rfl (by decide +kernel)) ?_
  refine ak (ok_if_ge (off := 9) (by decide) (by decide +kernel)) ?_
  refine ak (ok_aload_n (k := 0) rfl (by decide +kernel)) ?_
  refine ak (ok_iconst (n := 3) (by decide) (by decide +kernel)) ?_
  refine ak (ok_invV (r := 40) (kK_finds hsd l) qK_finds ck11 kd40 iK_finds tw1334 tw37 (by decide) tw1332 (by decide +kernel)) ?_
  refine ak (ok_ireturn rfl (by decide +kernel)) ?_
  refine ak (ok_iload_n (k := 2) rfl (by decide +kernel)) ?_
  refine ak (ok_if_eq (off := 15) (by decide) (by decide +kernel)) ?_
  refine ak (ok_iload_n (k := 3) rfl (by decide +kernel)) ?_
  refine ak (ok_bipush (n := 24) (by decide) (by decide +kernel)) ?_
  refine ak (ok_icmp_le (off := 9) (by decide) (by decide +kernel)) ?_
  refine ak (ok_aload_n (k := 0) rfl (by decide +kernel)) ?_
  refine ak (ok_iconst (n := 1) (by decide) (by decide +kernel)) ?_
  refine ak (ok_invV (r := 40) (kK_finds hsd l) qK_finds ck11 kd40 iK_finds tw1334 tw37 (by decide) tw1332 (by decide +kernel)) ?_
  refine ak (ok_ireturn rfl (by decide +kernel)) ?_
  refine ak (ok_aload_n (k := 0) rfl (by decide +kernel)) ?_
  refine ak (ok_get (k := 23) ck11 kd40 (by decide) (fun _ _ _ => rfl) (vf_40_23 hsd) tw1265 (by decide +kernel)) ?_
  refine ak (ok_iload_n (k := 1) rfl (by decide +kernel)) ?_
  refine ak (ok_iload_n (k := 2) rfl (by decide +kernel)) ?_
  refine ak (ok_iast kd64 (by decide) (by decide) (by decide +kernel)) ?_
  refine ak (ok_aload_n (k := 0) rfl (by decide +kernel)) ?_
  refine ak (ok_get (k := 24) ck11 kd40 (by decide) (fun _ _ _ => rfl) (vf_40_24 hsd) tw1266 (by decide +kernel)) ?_
  refine ak (ok_iload_n (k := 1) rfl (by decide +kernel)) ?_
  refine ak (ok_iload_n (k := 2) rfl (by decide +kernel)) ?_
  refine ak (ok_if_ne (off := 7) (by decide) (by decide +kernel)) ?_
  refine ak (ok_iconst (n := 0) (by decide) (by decide +kernel)) ?_
  refine ak (ok_goto (off := 4) (by decide) (by decide +kernel)) ?_
  refine ak (ok_iload_n (k := 3) rfl (by decide +kernel)) ?_
  refine ak (ok_iast kd65 (by decide) (by decide) (by decide +kernel)) ?_
  refine ak (ok_iconst (n := 0) (by decide) (by decide +kernel)) ?_
  refine ak (ok_istore (by decide) (by decide +kernel)) ?_
  refine ak (ok_iload (by decide +kernel)) ?_
  refine ak (ok_bipush (n := 24) (by decide) (by decide +kernel)) ?_
  refine ak (ok_icmp_ge (off := 22) (by decide) (by decide +kernel)) ?_
  refine ak (ok_aload_n (k := 0) rfl (by decide +kernel)) ?_
  refine ak (ok_get (k := 25) ck11 kd40 (by decide) (fun _ _ _ => rfl) (vf_40_25 hsd) tw1267 (by decide +kernel)) ?_
  refine ak (ok_bipush (n := 24) (by decide) (by decide +kernel)) ?_
  refine ak (ok_iload_n (k := 1) rfl (by decide +kernel)) ?_
  refine ak (ok_imul (by decide +kernel)) ?_
  refine ak (ok_iload (by decide +kernel)) ?_
  refine ak (ok_iadd (by decide +kernel)) ?_
  refine ak (ok_iconst (n := 0) (by decide) (by decide +kernel)) ?_
  refine ak (ok_iast kd66 (by decide) (by decide) (by decide +kernel)) ?_
  refine ak (ok_iinc (n := 1) (by decide) (by decide) (by decide +kernel)) ?_
  refine ak (ok_goto (off := (-23)) (by decide) (by decide +kernel)) ?_
  refine ak (ok_iconst (n := 1) (by decide) (by decide +kernel)) ?_
  refine ak (ok_ireturn rfl (by decide +kernel)) ?_
  exact trivial
def KK_sheet_90 (j90 : Int32 → Int32 → Mem → Option (Int32 × Mem)) : Jm (Int32 × Mem) := fun t als st M =>
  if t = 90 then (match als, st with
  | [.inr (.inr (.inl (al0, bl0, cl0))), .inl x1, _, _, .inl x4], [] => if al0 = 40 ∧ bl0 = 0 ∧ cl0 = 0 then j90 x1 x4 M else none
  | _, _ => none) else
  none
set_option maxRecDepth 1000000 in
theorem eK_sheet_90 (j90 : Int32 → Int32 → Mem → Option (Int32 × Mem)) (x1 : Int32) (x4 : Int32) (M : Mem) (u2 u3 : AV) : run (cK_sheet) (KK_sheet_90 j90) rtI 400 (seek (cK_sheet) 90) [aR (40, 0, 0), aI x1, u2, u3, aI x4] [] M = mK_sheet_90b j90 x1 x4 M := id rfl
theorem lK_sheet_90 {E : EV} {l : Launch} {p : Program} {e : Env} {s : State} {m : MethodId} {args : Array Value} {below : List Frame} {meth : Method} {c : Code} (A : AllOK E l 3 "FreeLancesModel" prog_13_method_116_code 5 (some .int) outI (cK_sheet)) (C : Cx E p s m args meth c "FreeLancesModel" prog_13_method_116_code 5 (some .int)) : ∀ (n : Nat), ∀ (x1 : Int32) (x4 : Int32) (M : Mem) (res : (Int32 × Mem)), mK_sheet_90 n x1 x4 M = some res → ∀ (u2 u3 : AV), Wm E p l e 3 s m args below meth c 5 90 [aR (40, 0, 0), aI x1, u2, u3, aI x4] [] M (outI res).1 (outI res).2 := by
  intro n
  induction n with
  | zero => intro _ _ M res h; cases h
  | succ n ih =>
    intro x1 x4 M res h u2 u3
    refine run_at C A rfl hrtI (n := 400) ((eK_sheet_90 (mK_sheet_90 n) x1 x4 M u2 u3).trans h) ?_
    intro t als st M hk
    unfold KK_sheet_90 at hk
    split at hk
    · rename_i ht
      subst ht
      split at hk
      · split at hk
        · rename_i hc
          obtain ⟨rfl, rfl, rfl⟩ := hc
          exact ih _ _ _ _ hk _ _
        · cases hk
      · cases hk
    cases hk
def KK_sheet_49 (j90 : Int32 → Int32 → Mem → Option (Int32 × Mem)) : Jm (Int32 × Mem) := fun t als st M =>
  if t = 90 then (match als, st with
  | [.inr (.inr (.inl (al0, bl0, cl0))), .inl x1, _, _, .inl x4], [] => if al0 = 40 ∧ bl0 = 0 ∧ cl0 = 0 then j90 x1 x4 M else none
  | _, _ => none) else
  none
set_option maxRecDepth 1000000 in
theorem eK_sheet_49 (j90 : Int32 → Int32 → Mem → Option (Int32 × Mem)) (x1 : Int32) (x2 : Int32) (x3 : Int32) (M : Mem) (u4 : AV) : run (cK_sheet) (KK_sheet_49 j90) rtI 400 (seek (cK_sheet) 49) [aR (40, 0, 0), aI x1, aI x2, aI x3, u4] [] M = mK_sheet_49b j90 x1 x2 x3 M := id rfl
theorem lK_sheet_49 {E : EV} {l : Launch} {p : Program} {e : Env} {s : State} {m : MethodId} {args : Array Value} {below : List Frame} {meth : Method} {c : Code} (A : AllOK E l 3 "FreeLancesModel" prog_13_method_116_code 5 (some .int) outI (cK_sheet)) (C : Cx E p s m args meth c "FreeLancesModel" prog_13_method_116_code 5 (some .int)) : ∀ (x1 : Int32) (x2 : Int32) (x3 : Int32) (M : Mem) (res : (Int32 × Mem)), mK_sheet_49 x1 x2 x3 M = some res → ∀ (u4 : AV), Wm E p l e 3 s m args below meth c 5 49 [aR (40, 0, 0), aI x1, aI x2, aI x3, u4] [] M (outI res).1 (outI res).2 := by
  intro x1 x2 x3 M res h u4
  refine run_at C A rfl hrtI (n := 400) ((eK_sheet_49 (mK_sheet_90 fuel) x1 x2 x3 M u4).trans h) ?_
  intro t als st M hk
  unfold KK_sheet_49 at hk
  split at hk
  · rename_i ht
    subst ht
    split at hk
    · split at hk
      · rename_i hc
        obtain ⟨rfl, rfl, rfl⟩ := hc
        exact lK_sheet_90 A C _ _ _ _ _ hk _ _
      · cases hk
    · cases hk
  cases hk
def KK_sheet (j49 : Int32 → Int32 → Int32 → Mem → Option (Int32 × Mem)) : Jm (Int32 × Mem) := fun t als st M =>
  if t = 49 then (match als, st with
  | [.inr (.inr (.inl (al0, bl0, cl0))), .inl x1, .inl x2, .inl x3, _], [] => if al0 = 40 ∧ bl0 = 0 ∧ cl0 = 0 then j49 x1 x2 x3 M else none
  | _, _ => none) else
  none
set_option maxRecDepth 1000000 in
theorem eK_sheet (j49 : Int32 → Int32 → Int32 → Mem → Option (Int32 × Mem)) (x1 : Int32) (x2 : Int32) (x3 : Int32) (M : Mem) : run (cK_sheet) (KK_sheet j49) rtI 400 (seek (cK_sheet) 0) [aR (40, 0, 0), aI x1, aI x2, aI x3, aU] [] M = mK_sheetb j49 x1 x2 x3 M := id rfl
theorem lK_sheet {E : EV} {l : Launch} {p : Program} {e : Env} {s : State} {m : MethodId} {args : Array Value} {below : List Frame} {meth : Method} {c : Code} (A : AllOK E l 3 "FreeLancesModel" prog_13_method_116_code 5 (some .int) outI (cK_sheet)) (C : Cx E p s m args meth c "FreeLancesModel" prog_13_method_116_code 5 (some .int)) : ∀ (x1 : Int32) (x2 : Int32) (x3 : Int32) (M : Mem) (res : (Int32 × Mem)), mK_sheet x1 x2 x3 M = some res → Wm E p l e 3 s m args below meth c 5 0 [aR (40, 0, 0), aI x1, aI x2, aI x3, aU] [] M (outI res).1 (outI res).2 := by
  intro x1 x2 x3 M res h
  refine run_at C A rfl hrtI (n := 400) ((eK_sheet mK_sheet_49 x1 x2 x3 M).trans h) ?_
  intro t als st M hk
  unfold KK_sheet at hk
  split at hk
  · rename_i ht
    subst ht
    split at hk
    · split at hk
      · rename_i hc
        obtain ⟨rfl, rfl, rfl⟩ := hc
        exact lK_sheet_49 A C _ _ _ _ _ hk _
      · cases hk
    · cases hk
  cases hk
def dK_sheet {β : Type} : Den β := fun as M k => match as with
  | [.inr (.inr (.inl (al0, bl0, cl0))), .inl x1, .inl x2, .inl x3] => if al0 = 40 ∧ bl0 = 0 ∧ cl0 = 0 then (mK_sheet x1 x2 x3 M).bind fun q => k (aI q.1) q.2 else none
  | _ => none
theorem wK_sheet {E : EV} (hsd : E.2.2.2 = 1) (l : Launch) (x1 : Int32) (x2 : Int32) (x3 : Int32) (M : Mem) (q : (Int32 × Mem)) (hq : mK_sheet x1 x2 x3 M = some q) : Con E l 3 yK_sheet prog_13_method_116_code 5 (some .int) [aR (40, 0, 0), aI x1, aI x2, aI x3] M (outI q).1 (outI q).2 := by
  refine con_of iK_sheet (Nat.le_of_ble_eq_true rfl) ?_
  intro p e s m args below meth c C
  exact lK_sheet (oK_sheet hsd l) C x1 x2 x3 M _ hq
theorem kK_sheet {E : EV} (hsd : E.2.2.2 = 1) (l : Launch) {β : Type} : DenOK E l 3 yK_sheet prog_13_method_116_code 5 (some .int) true (dK_sheet (β := β)) := by
  intro as M k res h
  unfold dK_sheet at h
  split at h
  ·
    split at h
    · rename_i hc
      obtain ⟨rfl, rfl, rfl⟩ := hc
      obtain ⟨q, hq, hk⟩ := Option.bind_eq_some_iff.mp h
      exact ⟨aI q.1, q.2, hk, rfl, wK_sheet hsd l _ _ _ M q hq⟩
    · cases h
  · cases h
theorem qK_sheet {β : Type} : RecOK 40 (dK_sheet (β := β)) := by
  intro as M k res h
  unfold dK_sheet at h
  split at h
  ·
    split at h
    · rename_i hc
      obtain ⟨rfl, rfl, rfl⟩ := hc
      exact ⟨_, _, _, rfl⟩
    · cases h
  · cases h
/-! ===== FreeLancesModel.put(III)I ===== -/
abbrev yK_put : MethodName := ⟨"FreeLancesModel", "put", "(III)I"⟩
theorem iK_put : MI yK_put prog_13_method_117_code 4 (some .int) 3 := ⟨tw1778, tw108, ⟨by decide, by decide⟩, by decide +kernel, by decide, by decide⟩
def cK_put : List (Ent (Int32 × Mem)) := [(false, 0, 1, sLdI 1),
  (false, 1, 3, sInv 1 true dK_isSheet),
  (false, 4, 3, sIfNe 13),
  (false, 7, 1, sLdA 0),
  (false, 8, 1, sC 1),
  (false, 9, 3, sInv 2 true dK_finds),
  (false, 12, 1, sRetI),
  (false, 13, 1, sLdA 0),
  (false, 14, 3, sGet 40 (fun w i M => aR (64, 0, 0))),
  (false, 17, 1, sLdI 1),
  (false, 18, 1, sIald 64 4),
  (false, 19, 3, sIfNe 28),
  (false, 22, 1, sLdA 0),
  (false, 23, 1, sC 2),
  (false, 24, 3, sInv 2 true dK_finds),
  (false, 27, 1, sRetI),
  (false, 28, 1, sLdI 2),
  (false, 29, 1, sC 0),
  (false, 30, 1, sLdA 0),
  (false, 31, 3, sGet 40 (fun w i M => aR (65, 0, 0))),
  (false, 34, 1, sLdI 1),
  (false, 35, 1, sIald 65 4),
  (false, 36, 1, sC 1),
  (false, 37, 1, sBin (fun x y => x - y)),
  (false, 38, 3, sInv 3 true dK_in),
  (false, 41, 3, sIfNe 50),
  (false, 44, 1, sLdA 0),
  (false, 45, 1, sC 1),
  (false, 46, 3, sInv 2 true dK_finds),
  (false, 49, 1, sRetI),
  (false, 50, 1, sLdA 0),
  (false, 51, 3, sGet 40 (fun w i M => aR (66, 0, 0))),
  (false, 54, 2, sC 24),
  (false, 56, 1, sLdI 1),
  (false, 57, 1, sBin (fun x y => x * y)),
  (false, 58, 1, sLdI 2),
  (false, 59, 1, sBin (fun x y => x + y)),
  (false, 60, 1, sLdA 0),
  (false, 61, 3, sGet 40 (fun w i M => aR (64, 0, 0))),
  (false, 64, 1, sLdI 1),
  (false, 65, 1, sIald 64 4),
  (false, 66, 2, sC 8),
  (false, 68, 3, sCmpNe 76),
  (false, 71, 1, sLdI 3),
  (false, 72, 1, sUn (fun x => x.toInt8.toInt32)),
  (false, 73, 3, sGoto 93),
  (false, 76, 1, sLdA 0),
  (false, 77, 3, sGet 40 (fun w i M => aR (64, 0, 0))),
  (false, 80, 1, sLdI 1),
  (false, 81, 1, sIald 64 4),
  (false, 82, 2, sC 16),
  (false, 84, 3, sCmpNe 92),
  (false, 87, 1, sLdI 3),
  (false, 88, 1, sUn (fun x => x.toInt16.toInt32)),
  (false, 89, 3, sGoto 93),
  (false, 92, 1, sLdI 3),
  (false, 93, 1, sIast 66 96),
  (false, 94, 1, sC 1),
  (false, 95, 1, sRetI)]
theorem oK_put {E : EV} (hsd : E.2.2.2 = 1) (l : Launch) : AllOK E l 3 "FreeLancesModel" prog_13_method_117_code 4 (some .int) outI (cK_put) := by
  refine ak (ok_iload_n (k := 1) rfl (by decide +kernel)) ?_
  refine ak (ok_invS (kK_isSheet hsd l) iK_isSheet tw1625 (by decide) tw1624 (by decide +kernel)) ?_
  refine ak (ok_if_ne (off := 9) (by decide) (by decide +kernel)) ?_
  refine ak (ok_aload_n (k := 0) rfl (by decide +kernel)) ?_
  refine ak (ok_iconst (n := 1) (by decide) (by decide +kernel)) ?_
  refine ak (ok_invV (r := 40) (kK_finds hsd l) qK_finds ck11 kd40 iK_finds tw1334 tw37 (by decide) tw1332 (by decide +kernel)) ?_
  refine ak (ok_ireturn rfl (by decide +kernel)) ?_
  refine ak (ok_aload_n (k := 0) rfl (by decide +kernel)) ?_
  refine ak (ok_get (k := 23) ck11 kd40 (by decide) (fun _ _ _ => rfl) (vf_40_23 hsd) tw1265 (by decide +kernel)) ?_
  refine ak (ok_iload_n (k := 1) rfl (by decide +kernel)) ?_
  refine ak (ok_iald kd64 (by decide) (by decide +kernel)) ?_
  refine ak (ok_if_ne (off := 9) (by decide) (by decide +kernel)) ?_
  refine ak (ok_aload_n (k := 0) rfl (by decide +kernel)) ?_
  refine ak (ok_iconst (n := 2) (by decide) (by decide +kernel)) ?_
  refine ak (ok_invV (r := 40) (kK_finds hsd l) qK_finds ck11 kd40 iK_finds tw1334 tw37 (by decide) tw1332 (by decide +kernel)) ?_
  refine ak (ok_ireturn rfl (by decide +kernel)) ?_
  refine ak (ok_iload_n (k := 2) rfl (by decide +kernel)) ?_
  refine ak (ok_iconst (n := 0) (by decide) (by decide +kernel)) ?_
  refine ak (ok_aload_n (k := 0) rfl (by decide +kernel)) ?_
  refine ak (ok_get (k := 24) ck11 kd40 (by decide) (fun _ _ _ => rfl) (vf_40_24 hsd) tw1266 (by decide +kernel)) ?_
  refine ak (ok_iload_n (k := 1) rfl (by decide +kernel)) ?_
  refine ak (ok_iald kd65 (by decide) (by decide +kernel)) ?_
  refine ak (ok_iconst (n := 1) (by decide) (by decide +kernel)) ?_
  refine ak (ok_isub (by decide +kernel)) ?_
  refine ak (ok_invS (kK_in hsd l) iK_in tw1330 (by decide) tw1329 (by decide +kernel)) ?_
  refine ak (ok_if_ne (off := 9) (by decide) (by decide +kernel)) ?_
  refine ak (ok_aload_n (k := 0) rfl (by decide +kernel)) ?_
  refine ak (ok_iconst (n := 1) (by decide) (by decide +kernel)) ?_
  refine ak (ok_invV (r := 40) (kK_finds hsd l) qK_finds ck11 kd40 iK_finds tw1334 tw37 (by decide) tw1332 (by decide +kernel)) ?_
  refine ak (ok_ireturn rfl (by decide +kernel)) ?_
  refine ak (ok_aload_n (k := 0) rfl (by decide +kernel)) ?_
  refine ak (ok_get (k := 25) ck11 kd40 (by decide) (fun _ _ _ => rfl) (vf_40_25 hsd) tw1267 (by decide +kernel)) ?_
  refine ak (ok_bipush (n := 24) (by decide) (by decide +kernel)) ?_
  refine ak (ok_iload_n (k := 1) rfl (by decide +kernel)) ?_
  refine ak (ok_imul (by decide +kernel)) ?_
  refine ak (ok_iload_n (k := 2) rfl (by decide +kernel)) ?_
  refine ak (ok_iadd (by decide +kernel)) ?_
  refine ak (ok_aload_n (k := 0) rfl (by decide +kernel)) ?_
  refine ak (ok_get (k := 23) ck11 kd40 (by decide) (fun _ _ _ => rfl) (vf_40_23 hsd) tw1265 (by decide +kernel)) ?_
  refine ak (ok_iload_n (k := 1) rfl (by decide +kernel)) ?_
  refine ak (ok_iald kd64 (by decide) (by decide +kernel)) ?_
  refine ak (ok_bipush (n := 8) (by decide) (by decide +kernel)) ?_
  refine ak (ok_icmp_ne (off := 8) (by decide) (by decide +kernel)) ?_
  refine ak (ok_iload_n (k := 3) rfl (by decide +kernel)) ?_
  refine ak (ok_i2b (by decide +kernel)) ?_
  refine ak (ok_goto (off := 20) (by decide) (by decide +kernel)) ?_
  refine ak (ok_aload_n (k := 0) rfl (by decide +kernel)) ?_
  refine ak (ok_get (k := 23) ck11 kd40 (by decide) (fun _ _ _ => rfl) (vf_40_23 hsd) tw1265 (by decide +kernel)) ?_
  refine ak (ok_iload_n (k := 1) rfl (by decide +kernel)) ?_
  refine ak (ok_iald kd64 (by decide) (by decide +kernel)) ?_
  refine ak (ok_bipush (n := 16) (by decide) (by decide +kernel)) ?_
  refine ak (ok_icmp_ne (off := 8) (by decide) (by decide +kernel)) ?_
  refine ak (ok_iload_n (k := 3) rfl (by decide +kernel)) ?_
  refine ak (ok_i2s (by decide +kernel)) ?_
  refine ak (ok_goto (off := 4) (by decide) (by decide +kernel)) ?_
  refine ak (ok_iload_n (k := 3) rfl (by decide +kernel)) ?_
  refine ak (ok_iast kd66 (by decide) (by decide) (by decide +kernel)) ?_
  refine ak (ok_iconst (n := 1) (by decide) (by decide +kernel)) ?_
  refine ak (ok_ireturn rfl (by decide +kernel)) ?_
  exact trivial
set_option maxRecDepth 1000000 in
theorem eK_put (x1 : Int32) (x2 : Int32) (x3 : Int32) (M : Mem) : run (cK_put) (fun _ _ _ _ => none) rtI 400 (seek (cK_put) 0) [aR (40, 0, 0), aI x1, aI x2, aI x3] [] M = mK_put x1 x2 x3 M := id rfl
theorem lK_put {E : EV} {l : Launch} {p : Program} {e : Env} {s : State} {m : MethodId} {args : Array Value} {below : List Frame} {meth : Method} {c : Code} (A : AllOK E l 3 "FreeLancesModel" prog_13_method_117_code 4 (some .int) outI (cK_put)) (C : Cx E p s m args meth c "FreeLancesModel" prog_13_method_117_code 4 (some .int)) : ∀ (x1 : Int32) (x2 : Int32) (x3 : Int32) (M : Mem) (res : (Int32 × Mem)), mK_put x1 x2 x3 M = some res → Wm E p l e 3 s m args below meth c 4 0 [aR (40, 0, 0), aI x1, aI x2, aI x3] [] M (outI res).1 (outI res).2 := by
  intro x1 x2 x3 M res h
  refine run_at C A rfl hrtI (n := 400) ((eK_put x1 x2 x3 M).trans h) ?_
  intro t als st M hk; cases hk
def dK_put {β : Type} : Den β := fun as M k => match as with
  | [.inr (.inr (.inl (al0, bl0, cl0))), .inl x1, .inl x2, .inl x3] => if al0 = 40 ∧ bl0 = 0 ∧ cl0 = 0 then (mK_put x1 x2 x3 M).bind fun q => k (aI q.1) q.2 else none
  | _ => none
theorem wK_put {E : EV} (hsd : E.2.2.2 = 1) (l : Launch) (x1 : Int32) (x2 : Int32) (x3 : Int32) (M : Mem) (q : (Int32 × Mem)) (hq : mK_put x1 x2 x3 M = some q) : Con E l 3 yK_put prog_13_method_117_code 4 (some .int) [aR (40, 0, 0), aI x1, aI x2, aI x3] M (outI q).1 (outI q).2 := by
  refine con_of iK_put (Nat.le_of_ble_eq_true rfl) ?_
  intro p e s m args below meth c C
  exact lK_put (oK_put hsd l) C x1 x2 x3 M _ hq
theorem kK_put {E : EV} (hsd : E.2.2.2 = 1) (l : Launch) {β : Type} : DenOK E l 3 yK_put prog_13_method_117_code 4 (some .int) true (dK_put (β := β)) := by
  intro as M k res h
  unfold dK_put at h
  split at h
  ·
    split at h
    · rename_i hc
      obtain ⟨rfl, rfl, rfl⟩ := hc
      obtain ⟨q, hq, hk⟩ := Option.bind_eq_some_iff.mp h
      exact ⟨aI q.1, q.2, hk, rfl, wK_put hsd l _ _ _ M q hq⟩
    · cases h
  · cases h
theorem qK_put {β : Type} : RecOK 40 (dK_put (β := β)) := by
  intro as M k res h
  unfold dK_put at h
  split at h
  ·
    split at h
    · rename_i hc
      obtain ⟨rfl, rfl, rfl⟩ := hc
      exact ⟨_, _, _, rfl⟩
    · cases h
  · cases h
/-! ===== FreeLancesModel.move(IIIII)I ===== -/
abbrev yK_move : MethodName := ⟨"FreeLancesModel", "move", "(IIIII)I"⟩
theorem iK_move : MI yK_move prog_13_method_118_code 7 (some .int) 5 := ⟨tw1782, tw108, ⟨by decide, by decide⟩, by decide +kernel, by decide, by decide⟩
def cK_move : List (Ent (Int32 × Mem)) := [(false, 0, 1, sLdI 1),
  (false, 1, 3, sInv 1 true dK_isSheet),
  (false, 4, 3, sIfEq 14),
  (false, 7, 1, sLdI 3),
  (false, 8, 3, sInv 1 true dK_isSheet),
  (false, 11, 3, sIfNe 20),
  (false, 14, 1, sLdA 0),
  (false, 15, 1, sC 1),
  (false, 16, 3, sInv 2 true dK_finds),
  (false, 19, 1, sRetI),
  (false, 20, 1, sLdA 0),
  (false, 21, 3, sGet 40 (fun w i M => aR (64, 0, 0))),
  (false, 24, 1, sLdI 1),
  (false, 25, 1, sIald 64 4),
  (false, 26, 3, sIfEq 38),
  (false, 29, 1, sLdA 0),
  (false, 30, 3, sGet 40 (fun w i M => aR (64, 0, 0))),
  (false, 33, 1, sLdI 3),
  (false, 34, 1, sIald 64 4),
  (false, 35, 3, sIfNe 44),
  (false, 38, 1, sLdA 0),
  (false, 39, 1, sC 2),
  (false, 40, 3, sInv 2 true dK_finds),
  (false, 43, 1, sRetI),
  (false, 44, 1, sLdA 0),
  (false, 45, 3, sGet 40 (fun w i M => aR (64, 0, 0))),
  (false, 48, 1, sLdI 1),
  (false, 49, 1, sIald 64 4),
  (false, 50, 1, sLdA 0),
  (false, 51, 3, sGet 40 (fun w i M => aR (64, 0, 0))),
  (false, 54, 1, sLdI 3),
  (false, 55, 1, sIald 64 4),
  (false, 56, 3, sCmpEq 65),
  (false, 59, 1, sLdA 0),
  (false, 60, 1, sC 5),
  (false, 61, 3, sInv 2 true dK_finds),
  (false, 64, 1, sRetI),
  (false, 65, 2, sLdI 5),
  (false, 67, 3, sIfLt 114),
  (false, 70, 1, sLdI 2),
  (false, 71, 3, sIfLt 114),
  (false, 74, 2, sLdI 4),
  (false, 76, 3, sIfLt 114),
  (false, 79, 1, sLdI 2),
  (false, 80, 1, sI2L),
  (false, 81, 2, sLdI 5),
  (false, 83, 1, sI2L),
  (false, 84, 1, sBinL (fun x y => x + y)),
  (false, 85, 1, sLdA 0),
  (false, 86, 3, sGet 40 (fun w i M => aR (65, 0, 0))),
  (false, 89, 1, sLdI 1),
  (false, 90, 1, sIald 65 4),
  (false, 91, 1, sI2L),
  (false, 92, 1, sLcmp),
  (false, 93, 3, sIfGt 114),
  (false, 96, 2, sLdI 4),
  (false, 98, 1, sI2L),
  (false, 99, 2, sLdI 5),
  (false, 101, 1, sI2L),
  (false, 102, 1, sBinL (fun x y => x + y)),
  (false, 103, 1, sLdA 0),
  (false, 104, 3, sGet 40 (fun w i M => aR (65, 0, 0))),
  (false, 107, 1, sLdI 3),
  (false, 108, 1, sIald 65 4),
  (false, 109, 1, sI2L),
  (false, 110, 1, sLcmp),
  (false, 111, 3, sIfLe 120),
  (false, 114, 1, sLdA 0),
  (false, 115, 1, sC 1),
  (false, 116, 3, sInv 2 true dK_finds),
  (false, 119, 1, sRetI),
  (false, 120, 1, sC 0),
  (false, 121, 2, sStI 6),
  (true, 123, 2, sLdI 6),
  (false, 125, 2, sLdI 5),
  (false, 127, 3, sCmpGe 157),
  (false, 130, 1, sLdA 0),
  (false, 131, 3, sGet 40 (fun w i M => aR (67, 0, 0))),
  (false, 134, 2, sLdI 6),
  (false, 136, 1, sLdA 0),
  (false, 137, 3, sGet 40 (fun w i M => aR (66, 0, 0))),
  (false, 140, 2, sC 24),
  (false, 142, 1, sLdI 1),
  (false, 143, 1, sBin (fun x y => x * y)),
  (false, 144, 1, sLdI 2),
  (false, 145, 1, sBin (fun x y => x + y)),
  (false, 146, 2, sLdI 6),
  (false, 148, 1, sBin (fun x y => x + y)),
  (false, 149, 1, sIald 66 96),
  (false, 150, 1, sIast 67 24),
  (false, 151, 3, sInc 6 1),
  (false, 154, 3, sGoto 123),
  (false, 157, 1, sC 0),
  (false, 158, 2, sStI 6),
  (true, 160, 2, sLdI 6),
  (false, 162, 2, sLdI 5),
  (false, 164, 3, sCmpGe 195),
  (false, 167, 1, sLdA 0),
  (false, 168, 3, sGet 40 (fun w i M => aR (66, 0, 0))),
  (false, 171, 2, sC 24),
  (false, 173, 1, sLdI 3),
  (false, 174, 1, sBin (fun x y => x * y)),
  (false, 175, 2, sLdI 4),
  (false, 177, 1, sBin (fun x y => x + y)),
  (false, 178, 2, sLdI 6),
  (false, 180, 1, sBin (fun x y => x + y)),
  (false, 181, 1, sLdA 0),
  (false, 182, 3, sGet 40 (fun w i M => aR (67, 0, 0))),
  (false, 185, 2, sLdI 6),
  (false, 187, 1, sIald 67 24),
  (false, 188, 1, sIast 66 96),
  (false, 189, 3, sInc 6 1),
  (false, 192, 3, sGoto 160),
  (false, 195, 2, sLdI 5),
  (false, 197, 1, sRetI)]
theorem oK_move {E : EV} (hsd : E.2.2.2 = 1) (l : Launch) : AllOK E l 3 "FreeLancesModel" prog_13_method_118_code 7 (some .int) outI (cK_move) := by
  refine ak (ok_iload_n (k := 1) rfl (by decide +kernel)) ?_
  refine ak (ok_invS (kK_isSheet hsd l) iK_isSheet tw1625 (by decide) tw1624 (by decide +kernel)) ?_
  refine ak (ok_if_eq (off := 10) (by decide) (by decide +kernel)) ?_
  refine ak (ok_iload_n (k := 3) rfl (by decide +kernel)) ?_
  refine ak (ok_invS (kK_isSheet hsd l) iK_isSheet tw1625 (by decide) tw1624 (by decide +kernel)) ?_
  refine ak (ok_if_ne (off := 9) (by decide) (by decide +kernel)) ?_
  refine ak (ok_aload_n (k := 0) rfl (by decide +kernel)) ?_
  refine ak (ok_iconst (n := 1) (by decide) (by decide +kernel)) ?_
  refine ak (ok_invV (r := 40) (kK_finds hsd l) qK_finds ck11 kd40 iK_finds tw1334 tw37 (by decide) tw1332 (by decide +kernel)) ?_
  refine ak (ok_ireturn rfl (by decide +kernel)) ?_
  refine ak (ok_aload_n (k := 0) rfl (by decide +kernel)) ?_
  refine ak (ok_get (k := 23) ck11 kd40 (by decide) (fun _ _ _ => rfl) (vf_40_23 hsd) tw1265 (by decide +kernel)) ?_
  refine ak (ok_iload_n (k := 1) rfl (by decide +kernel)) ?_
  refine ak (ok_iald kd64 (by decide) (by decide +kernel)) ?_
  refine ak (ok_if_eq (off := 12) (by decide) (by decide +kernel)) ?_
  refine ak (ok_aload_n (k := 0) rfl (by decide +kernel)) ?_
  refine ak (ok_get (k := 23) ck11 kd40 (by decide) (fun _ _ _ => rfl) (vf_40_23 hsd) tw1265 (by decide +kernel)) ?_
  refine ak (ok_iload_n (k := 3) rfl (by decide +kernel)) ?_
  refine ak (ok_iald kd64 (by decide) (by decide +kernel)) ?_
  refine ak (ok_if_ne (off := 9) (by decide) (by decide +kernel)) ?_
  refine ak (ok_aload_n (k := 0) rfl (by decide +kernel)) ?_
  refine ak (ok_iconst (n := 2) (by decide) (by decide +kernel)) ?_
  refine ak (ok_invV (r := 40) (kK_finds hsd l) qK_finds ck11 kd40 iK_finds tw1334 tw37 (by decide) tw1332 (by decide +kernel)) ?_
  refine ak (ok_ireturn rfl (by decide +kernel)) ?_
  refine ak (ok_aload_n (k := 0) rfl (by decide +kernel)) ?_
  refine ak (ok_get (k := 23) ck11 kd40 (by decide) (fun _ _ _ => rfl) (vf_40_23 hsd) tw1265 (by decide +kernel)) ?_
  refine ak (ok_iload_n (k := 1) rfl (by decide +kernel)) ?_
  refine ak (ok_iald kd64 (by decide) (by decide +kernel)) ?_
  refine ak (ok_aload_n (k := 0) rfl (by decide +kernel)) ?_
  refine ak (ok_get (k := 23) ck11 kd40 (by decide) (fun _ _ _ => rfl) (vf_40_23 hsd) tw1265 (by decide +kernel)) ?_
  refine ak (ok_iload_n (k := 3) rfl (by decide +kernel)) ?_
  refine ak (ok_iald kd64 (by decide) (by decide +kernel)) ?_
  refine ak (ok_icmp_eq (off := 9) (by decide) (by decide +kernel)) ?_
  refine ak (ok_aload_n (k := 0) rfl (by decide +kernel)) ?_
  refine ak (ok_iconst (n := 5) (by decide) (by decide +kernel)) ?_
  refine ak (ok_invV (r := 40) (kK_finds hsd l) qK_finds ck11 kd40 iK_finds tw1334 tw37 (by decide) tw1332 (by decide +kernel)) ?_
  refine ak (ok_ireturn rfl (by decide +kernel)) ?_
  refine ak (ok_iload (by decide +kernel)) ?_
  refine ak (ok_if_lt (off := 47) (by decide) (by decide +kernel)) ?_
  refine ak (ok_iload_n (k := 2) rfl (by decide +kernel)) ?_
  refine ak (ok_if_lt (off := 43) (by decide) (by decide +kernel)) ?_
  refine ak (ok_iload (by decide +kernel)) ?_
  refine ak (ok_if_lt (off := 38) (by decide) (by decide +kernel)) ?_
  refine ak (ok_iload_n (k := 2) rfl (by decide +kernel)) ?_
  refine ak (ok_i2l (by decide +kernel)) ?_
  refine ak (ok_iload (by decide +kernel)) ?_
  refine ak (ok_i2l (by decide +kernel)) ?_
  refine ak (ok_ladd (by decide +kernel)) ?_
  refine ak (ok_aload_n (k := 0) rfl (by decide +kernel)) ?_
  refine ak (ok_get (k := 24) ck11 kd40 (by decide) (fun _ _ _ => rfl) (vf_40_24 hsd) tw1266 (by decide +kernel)) ?_
  refine ak (ok_iload_n (k := 1) rfl (by decide +kernel)) ?_
  refine ak (ok_iald kd65 (by decide) (by decide +kernel)) ?_
  refine ak (ok_i2l (by decide +kernel)) ?_
  refine ak (ok_lcmp (by decide +kernel)) ?_
  refine ak (ok_if_gt (off := 21) (by decide) (by decide +kernel)) ?_
  refine ak (ok_iload (by decide +kernel)) ?_
  refine ak (ok_i2l (by decide +kernel)) ?_
  refine ak (ok_iload (by decide +kernel)) ?_
  refine ak (ok_i2l (by decide +kernel)) ?_
  refine ak (ok_ladd (by decide +kernel)) ?_
  refine ak (ok_aload_n (k := 0) rfl (by decide +kernel)) ?_
  refine ak (ok_get (k := 24) ck11 kd40 (by decide) (fun _ _ _ => rfl) (vf_40_24 hsd) tw1266 (by decide +kernel)) ?_
  refine ak (ok_iload_n (k := 3) rfl (by decide +kernel)) ?_
  refine ak (ok_iald kd65 (by decide) (by decide +kernel)) ?_
  refine ak (ok_i2l (by decide +kernel)) ?_
  refine ak (ok_lcmp (by decide +kernel)) ?_
  refine ak (ok_if_le (off := 9) (by decide) (by decide +kernel)) ?_
  refine ak (ok_aload_n (k := 0) rfl (by decide +kernel)) ?_
  refine ak (ok_iconst (n := 1) (by decide) (by decide +kernel)) ?_
  refine ak (ok_invV (r := 40) (kK_finds hsd l) qK_finds ck11 kd40 iK_finds tw1334 tw37 (by decide) tw1332 (by decide +kernel)) ?_
  refine ak (ok_ireturn rfl (by decide +kernel)) ?_
  refine ak (ok_iconst (n := 0) (by decide) (by decide +kernel)) ?_
  refine ak (ok_istore (by decide) (by decide +kernel)) ?_
  refine ak (ok_iload (by decide +kernel)) ?_
  refine ak (ok_iload (by decide +kernel)) ?_
  refine ak (ok_icmp_ge (off := 30) (by decide) (by decide +kernel)) ?_
  refine ak (ok_aload_n (k := 0) rfl (by decide +kernel)) ?_
  refine ak (ok_get (k := 26) ck11 kd40 (by decide) (fun _ _ _ => rfl) (vf_40_26 hsd) tw1268 (by decide +kernel)) ?_
  refine ak (ok_iload (by decide +kernel)) ?_
  refine ak (ok_aload_n (k := 0) rfl (by decide +kernel)) ?_
  refine ak (ok_get (k := 25) ck11 kd40 (by decide) (fun _ _ _ => rfl) (vf_40_25 hsd) tw1267 (by decide +kernel)) ?_
  refine ak (ok_bipush (n := 24) (by decide) (by decide +kernel)) ?_
  refine ak (ok_iload_n (k := 1) rfl (by decide +kernel)) ?_
  refine ak (ok_imul (by decide +kernel)) ?_
  refine ak (ok_iload_n (k := 2) rfl (by decide +kernel)) ?_
  refine ak (ok_iadd (by decide +kernel)) ?_
  refine ak (ok_iload (by decide +kernel)) ?_
  refine ak (ok_iadd (by decide +kernel)) ?_
  refine ak (ok_iald kd66 (by decide) (by decide +kernel)) ?_
  refine ak (ok_iast kd67 (by decide) (by decide) (by decide +kernel)) ?_
  refine ak (ok_iinc (n := 1) (by decide) (by decide) (by decide +kernel)) ?_
  refine ak (ok_goto (off := (-31)) (by decide) (by decide +kernel)) ?_
  refine ak (ok_iconst (n := 0) (by decide) (by decide +kernel)) ?_
  refine ak (ok_istore (by decide) (by decide +kernel)) ?_
  refine ak (ok_iload (by decide +kernel)) ?_
  refine ak (ok_iload (by decide +kernel)) ?_
  refine ak (ok_icmp_ge (off := 31) (by decide) (by decide +kernel)) ?_
  refine ak (ok_aload_n (k := 0) rfl (by decide +kernel)) ?_
  refine ak (ok_get (k := 25) ck11 kd40 (by decide) (fun _ _ _ => rfl) (vf_40_25 hsd) tw1267 (by decide +kernel)) ?_
  refine ak (ok_bipush (n := 24) (by decide) (by decide +kernel)) ?_
  refine ak (ok_iload_n (k := 3) rfl (by decide +kernel)) ?_
  refine ak (ok_imul (by decide +kernel)) ?_
  refine ak (ok_iload (by decide +kernel)) ?_
  refine ak (ok_iadd (by decide +kernel)) ?_
  refine ak (ok_iload (by decide +kernel)) ?_
  refine ak (ok_iadd (by decide +kernel)) ?_
  refine ak (ok_aload_n (k := 0) rfl (by decide +kernel)) ?_
  refine ak (ok_get (k := 26) ck11 kd40 (by decide) (fun _ _ _ => rfl) (vf_40_26 hsd) tw1268 (by decide +kernel)) ?_
  refine ak (ok_iload (by decide +kernel)) ?_
  refine ak (ok_iald kd67 (by decide) (by decide +kernel)) ?_
  refine ak (ok_iast kd66 (by decide) (by decide) (by decide +kernel)) ?_
  refine ak (ok_iinc (n := 1) (by decide) (by decide) (by decide +kernel)) ?_
  refine ak (ok_goto (off := (-32)) (by decide) (by decide +kernel)) ?_
  refine ak (ok_iload (by decide +kernel)) ?_
  refine ak (ok_ireturn rfl (by decide +kernel)) ?_
  exact trivial
def KK_move_160 (j160 : Int32 → Int32 → Int32 → Int32 → Mem → Option (Int32 × Mem)) : Jm (Int32 × Mem) := fun t als st M =>
  if t = 160 then (match als, st with
  | [.inr (.inr (.inl (al0, bl0, cl0))), _, _, .inl x3, .inl x4, .inl x5, .inl x6], [] => if al0 = 40 ∧ bl0 = 0 ∧ cl0 = 0 then j160 x3 x4 x5 x6 M else none
  | _, _ => none) else
  none
set_option maxRecDepth 1000000 in
theorem eK_move_160 (j160 : Int32 → Int32 → Int32 → Int32 → Mem → Option (Int32 × Mem)) (x3 : Int32) (x4 : Int32) (x5 : Int32) (x6 : Int32) (M : Mem) (u1 u2 : AV) : run (cK_move) (KK_move_160 j160) rtI 400 (seek (cK_move) 160) [aR (40, 0, 0), u1, u2, aI x3, aI x4, aI x5, aI x6] [] M = mK_move_160b j160 x3 x4 x5 x6 M := id rfl
theorem lK_move_160 {E : EV} {l : Launch} {p : Program} {e : Env} {s : State} {m : MethodId} {args : Array Value} {below : List Frame} {meth : Method} {c : Code} (A : AllOK E l 3 "FreeLancesModel" prog_13_method_118_code 7 (some .int) outI (cK_move)) (C : Cx E p s m args meth c "FreeLancesModel" prog_13_method_118_code 7 (some .int)) : ∀ (n : Nat), ∀ (x3 : Int32) (x4 : Int32) (x5 : Int32) (x6 : Int32) (M : Mem) (res : (Int32 × Mem)), mK_move_160 n x3 x4 x5 x6 M = some res → ∀ (u1 u2 : AV), Wm E p l e 3 s m args below meth c 7 160 [aR (40, 0, 0), u1, u2, aI x3, aI x4, aI x5, aI x6] [] M (outI res).1 (outI res).2 := by
  intro n
  induction n with
  | zero => intro _ _ _ _ M res h; cases h
  | succ n ih =>
    intro x3 x4 x5 x6 M res h u1 u2
    refine run_at C A rfl hrtI (n := 400) ((eK_move_160 (mK_move_160 n) x3 x4 x5 x6 M u1 u2).trans h) ?_
    intro t als st M hk
    unfold KK_move_160 at hk
    split at hk
    · rename_i ht
      subst ht
      split at hk
      · split at hk
        · rename_i hc
          obtain ⟨rfl, rfl, rfl⟩ := hc
          exact ih _ _ _ _ _ _ hk _ _
        · cases hk
      · cases hk
    cases hk
def KK_move_123 (j123 : Int32 → Int32 → Int32 → Int32 → Int32 → Int32 → Mem → Option (Int32 × Mem)) (j160 : Int32 → Int32 → Int32 → Int32 → Mem → Option (Int32 × Mem)) : Jm (Int32 × Mem) := fun t als st M =>
  if t = 123 then (match als, st with
  | [.inr (.inr (.inl (al0, bl0, cl0))), .inl x1, .inl x2, .inl x3, .inl x4, .inl x5, .inl x6], [] => if al0 = 40 ∧ bl0 = 0 ∧ cl0 = 0 then j123 x1 x2 x3 x4 x5 x6 M else none
  | _, _ => none) else
  if t = 160 then (match als, st with
  | [.inr (.inr (.inl (al0, bl0, cl0))), _, _, .inl x3, .inl x4, .inl x5, .inl x6], [] => if al0 = 40 ∧ bl0 = 0 ∧ cl0 = 0 then j160 x3 x4 x5 x6 M else none
  | _, _ => none) else
  none
set_option maxRecDepth 1000000 in
theorem eK_move_123 (j123 : Int32 → Int32 → Int32 → Int32 → Int32 → Int32 → Mem → Option (Int32 × Mem)) (j160 : Int32 → Int32 → Int32 → Int32 → Mem → Option (Int32 × Mem)) (x1 : Int32) (x2 : Int32) (x3 : Int32) (x4 : Int32) (x5 : Int32) (x6 : Int32) (M : Mem) : run (cK_move) (KK_move_123 j123 j160) rtI 400 (seek (cK_move) 123) [aR (40, 0, 0), aI x1, aI x2, aI x3, aI x4, aI x5, aI x6] [] M = mK_move_123b j123 j160 x1 x2 x3 x4 x5 x6 M := id rfl
theorem lK_move_123 {E : EV} {l : Launch} {p : Program} {e : Env} {s : State} {m : MethodId} {args : Array Value} {below : List Frame} {meth : Method} {c : Code} (A : AllOK E l 3 "FreeLancesModel" prog_13_method_118_code 7 (some .int) outI (cK_move)) (C : Cx E p s m args meth c "FreeLancesModel" prog_13_method_118_code 7 (some .int)) : ∀ (n : Nat), ∀ (x1 : Int32) (x2 : Int32) (x3 : Int32) (x4 : Int32) (x5 : Int32) (x6 : Int32) (M : Mem) (res : (Int32 × Mem)), mK_move_123 n x1 x2 x3 x4 x5 x6 M = some res → Wm E p l e 3 s m args below meth c 7 123 [aR (40, 0, 0), aI x1, aI x2, aI x3, aI x4, aI x5, aI x6] [] M (outI res).1 (outI res).2 := by
  intro n
  induction n with
  | zero => intro _ _ _ _ _ _ M res h; cases h
  | succ n ih =>
    intro x1 x2 x3 x4 x5 x6 M res h
    refine run_at C A rfl hrtI (n := 400) ((eK_move_123 (mK_move_123 n) (mK_move_160 fuel) x1 x2 x3 x4 x5 x6 M).trans h) ?_
    intro t als st M hk
    unfold KK_move_123 at hk
    split at hk
    · rename_i ht
      subst ht
      split at hk
      · split at hk
        · rename_i hc
          obtain ⟨rfl, rfl, rfl⟩ := hc
          exact ih _ _ _ _ _ _ _ _ hk
        · cases hk
      · cases hk
    split at hk
    · rename_i ht
      subst ht
      split at hk
      · split at hk
        · rename_i hc
          obtain ⟨rfl, rfl, rfl⟩ := hc
          exact lK_move_160 A C _ _ _ _ _ _ _ hk _ _
        · cases hk
      · cases hk
    cases hk
def KK_move (j123 : Int32 → Int32 → Int32 → Int32 → Int32 → Int32 → Mem → Option (Int32 × Mem)) : Jm (Int32 × Mem) := fun t als st M =>
  if t = 123 then (match als, st with
  | [.inr (.inr (.inl (al0, bl0, cl0))), .inl x1, .inl x2, .inl x3, .inl x4, .inl x5, .inl x6], [] => if al0 = 40 ∧ bl0 = 0 ∧ cl0 = 0 then j123 x1 x2 x3 x4 x5 x6 M else none
  | _, _ => none) else
  none
set_option maxRecDepth 1000000 in
theorem eK_move (j123 : Int32 → Int32 → Int32 → Int32 → Int32 → Int32 → Mem → Option (Int32 × Mem)) (x1 : Int32) (x2 : Int32) (x3 : Int32) (x4 : Int32) (x5 : Int32) (M : Mem) : run (cK_move) (KK_move j123) rtI 400 (seek (cK_move) 0) [aR (40, 0, 0), aI x1, aI x2, aI x3, aI x4, aI x5, aU] [] M = mK_moveb j123 x1 x2 x3 x4 x5 M := id rfl
theorem lK_move {E : EV} {l : Launch} {p : Program} {e : Env} {s : State} {m : MethodId} {args : Array Value} {below : List Frame} {meth : Method} {c : Code} (A : AllOK E l 3 "FreeLancesModel" prog_13_method_118_code 7 (some .int) outI (cK_move)) (C : Cx E p s m args meth c "FreeLancesModel" prog_13_method_118_code 7 (some .int)) : ∀ (x1 : Int32) (x2 : Int32) (x3 : Int32) (x4 : Int32) (x5 : Int32) (M : Mem) (res : (Int32 × Mem)), mK_move x1 x2 x3 x4 x5 M = some res → Wm E p l e 3 s m args below meth c 7 0 [aR (40, 0, 0), aI x1, aI x2, aI x3, aI x4, aI x5, aU] [] M (outI res).1 (outI res).2 := by
  intro x1 x2 x3 x4 x5 M res h
  refine run_at C A rfl hrtI (n := 400) ((eK_move (mK_move_123 fuel) x1 x2 x3 x4 x5 M).trans h) ?_
  intro t als st M hk
  unfold KK_move at hk
  split at hk
  · rename_i ht
    subst ht
    split at hk
    · split at hk
      · rename_i hc
        obtain ⟨rfl, rfl, rfl⟩ := hc
        exact lK_move_123 A C _ _ _ _ _ _ _ _ _ hk
      · cases hk
    · cases hk
  cases hk
def dK_move {β : Type} : Den β := fun as M k => match as with
  | [.inr (.inr (.inl (al0, bl0, cl0))), .inl x1, .inl x2, .inl x3, .inl x4, .inl x5] => if al0 = 40 ∧ bl0 = 0 ∧ cl0 = 0 then (mK_move x1 x2 x3 x4 x5 M).bind fun q => k (aI q.1) q.2 else none
  | _ => none
theorem wK_move {E : EV} (hsd : E.2.2.2 = 1) (l : Launch) (x1 : Int32) (x2 : Int32) (x3 : Int32) (x4 : Int32) (x5 : Int32) (M : Mem) (q : (Int32 × Mem)) (hq : mK_move x1 x2 x3 x4 x5 M = some q) : Con E l 3 yK_move prog_13_method_118_code 7 (some .int) [aR (40, 0, 0), aI x1, aI x2, aI x3, aI x4, aI x5] M (outI q).1 (outI q).2 := by
  refine con_of iK_move (Nat.le_of_ble_eq_true rfl) ?_
  intro p e s m args below meth c C
  exact lK_move (oK_move hsd l) C x1 x2 x3 x4 x5 M _ hq
theorem kK_move {E : EV} (hsd : E.2.2.2 = 1) (l : Launch) {β : Type} : DenOK E l 3 yK_move prog_13_method_118_code 7 (some .int) true (dK_move (β := β)) := by
  intro as M k res h
  unfold dK_move at h
  split at h
  ·
    split at h
    · rename_i hc
      obtain ⟨rfl, rfl, rfl⟩ := hc
      obtain ⟨q, hq, hk⟩ := Option.bind_eq_some_iff.mp h
      exact ⟨aI q.1, q.2, hk, rfl, wK_move hsd l _ _ _ _ _ M q hq⟩
    · cases h
  · cases h
theorem qK_move {β : Type} : RecOK 40 (dK_move (β := β)) := by
  intro as M k res h
  unfold dK_move at h
  split at h
  ·
    split at h
    · rename_i hc
      obtain ⟨rfl, rfl, rfl⟩ := hc
      exact ⟨_, _, _, rfl⟩
    · cases h
  · cases h
/-! ===== FreeLancesModel.image()I ===== -/
abbrev yK_image : MethodName := ⟨"FreeLancesModel", "image", "()I"⟩
theorem iK_image : MI yK_image prog_13_method_119_code 2 (some .int) 0 := ⟨tw1786, tw108, ⟨by decide, by decide⟩, by decide +kernel, by decide, by decide⟩
def cK_image : List (Ent (Int32 × Mem)) := [(false, 0, 1, sC 0),
  (false, 1, 1, sStI 1),
  (true, 2, 1, sLdI 1),
  (false, 3, 3, sC 1502),
  (false, 6, 3, sCmpGe 27),
  (false, 9, 1, sLdA 0),
  (false, 10, 3, sGet 40 (fun w i M => aR (42, 0, 0))),
  (false, 13, 1, sLdI 1),
  (false, 14, 1, sLdA 0),
  (false, 15, 3, sGet 40 (fun w i M => aR (41, 0, 0))),
  (false, 18, 1, sLdI 1),
  (false, 19, 1, sIald 41 1502),
  (false, 20, 1, sIast 42 1502),
  (false, 21, 3, sInc 1 1),
  (false, 24, 3, sGoto 2),
  (false, 27, 1, sLdA 0),
  (false, 28, 1, sDup),
  (false, 29, 3, sGet 40 (fun w i M => aI (M 40 w i 4))),
  (false, 32, 1, sC 1),
  (false, 33, 1, sBin (fun x y => x + y)),
  (false, 34, 3, sPut 40 4),
  (false, 37, 1, sLdA 0),
  (false, 38, 3, sGet 40 (fun w i M => aI (M 40 w i 4))),
  (false, 41, 1, sRetI)]
theorem oK_image {E : EV} (hsd : E.2.2.2 = 1) (l : Launch) : AllOK E l 1 "FreeLancesModel" prog_13_method_119_code 2 (some .int) outI (cK_image) := by
  refine ak (ok_iconst (n := 0) (by decide) (by decide +kernel)) ?_
  refine ak (ok_istore_n (k := 1) rfl (by decide) (by decide +kernel)) ?_
  refine ak (ok_iload_n (k := 1) rfl (by decide +kernel)) ?_
  refine ak (ok_sipush (n := 1502) (by decide) (by decide +kernel)) ?_
  refine ak (ok_icmp_ge (off := 21) (by decide) (by decide +kernel)) ?_
  refine ak (ok_aload_n (k := 0) rfl (by decide +kernel)) ?_
  refine ak (ok_get (k := 1) ck11 kd40 (by decide) (fun _ _ _ => rfl) (vf_40_1 hsd) tw1243 (by decide +kernel)) ?_
  refine ak (ok_iload_n (k := 1) rfl (by decide +kernel)) ?_
  refine ak (ok_aload_n (k := 0) rfl (by decide +kernel)) ?_
  refine ak (ok_get (k := 0) ck11 kd40 (by decide) (fun _ _ _ => rfl) (vf_40_0 hsd) tw1242 (by decide +kernel)) ?_
  refine ak (ok_iload_n (k := 1) rfl (by decide +kernel)) ?_
  refine ak (ok_iald kd41 (by decide) (by decide +kernel)) ?_
  refine ak (ok_iast kd42 (by decide) (by decide) (by decide +kernel)) ?_
  refine ak (ok_iinc (n := 1) (by decide) (by decide) (by decide +kernel)) ?_
  refine ak (ok_goto (off := (-22)) (by decide) (by decide +kernel)) ?_
  refine ak (ok_aload_n (k := 0) rfl (by decide +kernel)) ?_
  refine ak (ok_dup (by decide +kernel)) ?_
  refine ak (ok_get (k := 4) ck11 kd40 (by decide) (fun _ _ _ => rfl) (fun _ _ _ _ _ => trivial) tw1246 (by decide +kernel)) ?_
  refine ak (ok_iconst (n := 1) (by decide) (by decide +kernel)) ?_
  refine ak (ok_iadd (by decide +kernel)) ?_
  refine ak (ok_put (k := 4) ck11 kd40 (by decide) (fun _ _ _ => rfl) rfl rfl (by decide) tw1246 (by decide +kernel)) ?_
  refine ak (ok_aload_n (k := 0) rfl (by decide +kernel)) ?_
  refine ak (ok_get (k := 4) ck11 kd40 (by decide) (fun _ _ _ => rfl) (fun _ _ _ _ _ => trivial) tw1246 (by decide +kernel)) ?_
  refine ak (ok_ireturn rfl (by decide +kernel)) ?_
  exact trivial
def KK_image_2 (j2 : Int32 → Mem → Option (Int32 × Mem)) : Jm (Int32 × Mem) := fun t als st M =>
  if t = 2 then (match als, st with
  | [.inr (.inr (.inl (al0, bl0, cl0))), .inl x1], [] => if al0 = 40 ∧ bl0 = 0 ∧ cl0 = 0 then j2 x1 M else none
  | _, _ => none) else
  none
set_option maxRecDepth 1000000 in
theorem eK_image_2 (j2 : Int32 → Mem → Option (Int32 × Mem)) (x1 : Int32) (M : Mem) : run (cK_image) (KK_image_2 j2) rtI 400 (seek (cK_image) 2) [aR (40, 0, 0), aI x1] [] M = mK_image_2b j2 x1 M := id rfl
theorem lK_image_2 {E : EV} {l : Launch} {p : Program} {e : Env} {s : State} {m : MethodId} {args : Array Value} {below : List Frame} {meth : Method} {c : Code} (A : AllOK E l 1 "FreeLancesModel" prog_13_method_119_code 2 (some .int) outI (cK_image)) (C : Cx E p s m args meth c "FreeLancesModel" prog_13_method_119_code 2 (some .int)) : ∀ (n : Nat), ∀ (x1 : Int32) (M : Mem) (res : (Int32 × Mem)), mK_image_2 n x1 M = some res → Wm E p l e 1 s m args below meth c 2 2 [aR (40, 0, 0), aI x1] [] M (outI res).1 (outI res).2 := by
  intro n
  induction n with
  | zero => intro _ M res h; cases h
  | succ n ih =>
    intro x1 M res h
    refine run_at C A rfl hrtI (n := 400) ((eK_image_2 (mK_image_2 n) x1 M).trans h) ?_
    intro t als st M hk
    unfold KK_image_2 at hk
    split at hk
    · rename_i ht
      subst ht
      split at hk
      · split at hk
        · rename_i hc
          obtain ⟨rfl, rfl, rfl⟩ := hc
          exact ih _ _ _ hk
        · cases hk
      · cases hk
    cases hk
def KK_image (j2 : Int32 → Mem → Option (Int32 × Mem)) : Jm (Int32 × Mem) := fun t als st M =>
  if t = 2 then (match als, st with
  | [.inr (.inr (.inl (al0, bl0, cl0))), .inl x1], [] => if al0 = 40 ∧ bl0 = 0 ∧ cl0 = 0 then j2 x1 M else none
  | _, _ => none) else
  none
set_option maxRecDepth 1000000 in
theorem eK_image (j2 : Int32 → Mem → Option (Int32 × Mem)) (M : Mem) : run (cK_image) (KK_image j2) rtI 400 (seek (cK_image) 0) [aR (40, 0, 0), aU] [] M = mK_imageb j2 M := id rfl
theorem lK_image {E : EV} {l : Launch} {p : Program} {e : Env} {s : State} {m : MethodId} {args : Array Value} {below : List Frame} {meth : Method} {c : Code} (A : AllOK E l 1 "FreeLancesModel" prog_13_method_119_code 2 (some .int) outI (cK_image)) (C : Cx E p s m args meth c "FreeLancesModel" prog_13_method_119_code 2 (some .int)) : ∀ (M : Mem) (res : (Int32 × Mem)), mK_image M = some res → Wm E p l e 1 s m args below meth c 2 0 [aR (40, 0, 0), aU] [] M (outI res).1 (outI res).2 := by
  intro M res h
  refine run_at C A rfl hrtI (n := 400) ((eK_image (mK_image_2 fuel) M).trans h) ?_
  intro t als st M hk
  unfold KK_image at hk
  split at hk
  · rename_i ht
    subst ht
    split at hk
    · split at hk
      · rename_i hc
        obtain ⟨rfl, rfl, rfl⟩ := hc
        exact lK_image_2 A C _ _ _ _ hk
      · cases hk
    · cases hk
  cases hk
def dK_image {β : Type} : Den β := fun as M k => match as with
  | [.inr (.inr (.inl (al0, bl0, cl0)))] => if al0 = 40 ∧ bl0 = 0 ∧ cl0 = 0 then (mK_image M).bind fun q => k (aI q.1) q.2 else none
  | _ => none
theorem wK_image {E : EV} (hsd : E.2.2.2 = 1) (l : Launch) (M : Mem) (q : (Int32 × Mem)) (hq : mK_image M = some q) : Con E l 1 yK_image prog_13_method_119_code 2 (some .int) [aR (40, 0, 0)] M (outI q).1 (outI q).2 := by
  refine con_of iK_image (Nat.le_of_ble_eq_true rfl) ?_
  intro p e s m args below meth c C
  exact lK_image (oK_image hsd l) C M _ hq
theorem kK_image {E : EV} (hsd : E.2.2.2 = 1) (l : Launch) {β : Type} : DenOK E l 1 yK_image prog_13_method_119_code 2 (some .int) true (dK_image (β := β)) := by
  intro as M k res h
  unfold dK_image at h
  split at h
  ·
    split at h
    · rename_i hc
      obtain ⟨rfl, rfl, rfl⟩ := hc
      obtain ⟨q, hq, hk⟩ := Option.bind_eq_some_iff.mp h
      exact ⟨aI q.1, q.2, hk, rfl, wK_image hsd l M q hq⟩
    · cases h
  · cases h
theorem qK_image {β : Type} : RecOK 40 (dK_image (β := β)) := by
  intro as M k res h
  unfold dK_image at h
  split at h
  ·
    split at h
    · rename_i hc
      obtain ⟨rfl, rfl, rfl⟩ := hc
      exact ⟨_, _, _, rfl⟩
    · cases h
  · cases h
/-! ===== FreeLancesModel.restore()I ===== -/
abbrev yK_restore : MethodName := ⟨"FreeLancesModel", "restore", "()I"⟩
theorem iK_restore : MI yK_restore prog_13_method_120_code 2 (some .int) 0 := ⟨tw1790, tw108, ⟨by decide, by decide⟩, by decide +kernel, by decide, by decide⟩
def cK_restore : List (Ent (Int32 × Mem)) := [(false, 0, 1, sLdA 0),
  (false, 1, 3, sGet 40 (fun w i M => aI (M 40 w i 4))),
  (false, 4, 3, sIfNe 13),
  (false, 7, 1, sLdA 0),
  (false, 8, 1, sC 2),
  (false, 9, 3, sInv 2 true dK_finds),
  (false, 12, 1, sRetI),
  (false, 13, 1, sC 0),
  (false, 14, 1, sStI 1),
  (true, 15, 1, sLdI 1),
  (false, 16, 3, sC 1502),
  (false, 19, 3, sCmpGe 40),
  (false, 22, 1, sLdA 0),
  (false, 23, 3, sGet 40 (fun w i M => aR (41, 0, 0))),
  (false, 26, 1, sLdI 1),
  (false, 27, 1, sLdA 0),
  (false, 28, 3, sGet 40 (fun w i M => aR (42, 0, 0))),
  (false, 31, 1, sLdI 1),
  (false, 32, 1, sIald 42 1502),
  (false, 33, 1, sIast 41 1502),
  (false, 34, 3, sInc 1 1),
  (false, 37, 3, sGoto 15),
  (false, 40, 1, sLdA 0),
  (false, 41, 3, sGet 40 (fun w i M => aR (41, 0, 0))),
  (false, 44, 2, sC 6),
  (false, 46, 1, sIald 41 1502),
  (false, 47, 1, sRetI)]
theorem oK_restore {E : EV} (hsd : E.2.2.2 = 1) (l : Launch) : AllOK E l 2 "FreeLancesModel" prog_13_method_120_code 2 (some .int) outI (cK_restore) := by
  refine ak (ok_aload_n (k := 0) rfl (by decide +kernel)) ?_
  refine ak (ok_get (k := 4) ck11 kd40 (by decide) (fun _ _ _ => rfl) (fun _ _ _ _ _ => trivial) tw1246 (by decide +kernel)) ?_
  refine ak (ok_if_ne (off := 9) (by decide) (by decide +kernel)) ?_
  refine ak (ok_aload_n (k := 0) rfl (by decide +kernel)) ?_
  refine ak (ok_iconst (n := 2) (by decide) (by decide +kernel)) ?_
  refine ak (ok_invV (r := 40) (kK_finds hsd l) qK_finds ck11 kd40 iK_finds tw1334 tw37 (by decide) tw1332 (by decide +kernel)) ?_
  refine ak (ok_ireturn rfl (by decide +kernel)) ?_
  refine ak (ok_iconst (n := 0) (by decide) (by decide +kernel)) ?_
  refine ak (ok_istore_n (k := 1) rfl (by decide) (by decide +kernel)) ?_
  refine ak (ok_iload_n (k := 1) rfl (by decide +kernel)) ?_
  refine ak (ok_sipush (n := 1502) (by decide) (by decide +kernel)) ?_
  refine ak (ok_icmp_ge (off := 21) (by decide) (by decide +kernel)) ?_
  refine ak (ok_aload_n (k := 0) rfl (by decide +kernel)) ?_
  refine ak (ok_get (k := 0) ck11 kd40 (by decide) (fun _ _ _ => rfl) (vf_40_0 hsd) tw1242 (by decide +kernel)) ?_
  refine ak (ok_iload_n (k := 1) rfl (by decide +kernel)) ?_
  refine ak (ok_aload_n (k := 0) rfl (by decide +kernel)) ?_
  refine ak (ok_get (k := 1) ck11 kd40 (by decide) (fun _ _ _ => rfl) (vf_40_1 hsd) tw1243 (by decide +kernel)) ?_
  refine ak (ok_iload_n (k := 1) rfl (by decide +kernel)) ?_
  refine ak (ok_iald kd42 (by decide) (by decide +kernel)) ?_
  refine ak (ok_iast kd41 (by decide) (by decide) (by decide +kernel)) ?_
  refine ak (ok_iinc (n := 1) (by decide) (by decide) (by decide +kernel)) ?_
  refine ak (ok_goto (off := (-22)) (by decide) (by decide +kernel)) ?_
  refine ak (ok_aload_n (k := 0) rfl (by decide +kernel)) ?_
  refine ak (ok_get (k := 0) ck11 kd40 (by decide) (fun _ _ _ => rfl) (vf_40_0 hsd) tw1242 (by decide +kernel)) ?_
  refine ak (ok_bipush (n := 6) (by decide) (by decide +kernel)) ?_
  refine ak (ok_iald kd41 (by decide) (by decide +kernel)) ?_
  refine ak (ok_ireturn rfl (by decide +kernel)) ?_
  exact trivial
def KK_restore_15 (j15 : Int32 → Mem → Option (Int32 × Mem)) : Jm (Int32 × Mem) := fun t als st M =>
  if t = 15 then (match als, st with
  | [.inr (.inr (.inl (al0, bl0, cl0))), .inl x1], [] => if al0 = 40 ∧ bl0 = 0 ∧ cl0 = 0 then j15 x1 M else none
  | _, _ => none) else
  none
set_option maxRecDepth 1000000 in
theorem eK_restore_15 (j15 : Int32 → Mem → Option (Int32 × Mem)) (x1 : Int32) (M : Mem) : run (cK_restore) (KK_restore_15 j15) rtI 400 (seek (cK_restore) 15) [aR (40, 0, 0), aI x1] [] M = mK_restore_15b j15 x1 M := id rfl
theorem lK_restore_15 {E : EV} {l : Launch} {p : Program} {e : Env} {s : State} {m : MethodId} {args : Array Value} {below : List Frame} {meth : Method} {c : Code} (A : AllOK E l 2 "FreeLancesModel" prog_13_method_120_code 2 (some .int) outI (cK_restore)) (C : Cx E p s m args meth c "FreeLancesModel" prog_13_method_120_code 2 (some .int)) : ∀ (n : Nat), ∀ (x1 : Int32) (M : Mem) (res : (Int32 × Mem)), mK_restore_15 n x1 M = some res → Wm E p l e 2 s m args below meth c 2 15 [aR (40, 0, 0), aI x1] [] M (outI res).1 (outI res).2 := by
  intro n
  induction n with
  | zero => intro _ M res h; cases h
  | succ n ih =>
    intro x1 M res h
    refine run_at C A rfl hrtI (n := 400) ((eK_restore_15 (mK_restore_15 n) x1 M).trans h) ?_
    intro t als st M hk
    unfold KK_restore_15 at hk
    split at hk
    · rename_i ht
      subst ht
      split at hk
      · split at hk
        · rename_i hc
          obtain ⟨rfl, rfl, rfl⟩ := hc
          exact ih _ _ _ hk
        · cases hk
      · cases hk
    cases hk
def KK_restore (j15 : Int32 → Mem → Option (Int32 × Mem)) : Jm (Int32 × Mem) := fun t als st M =>
  if t = 15 then (match als, st with
  | [.inr (.inr (.inl (al0, bl0, cl0))), .inl x1], [] => if al0 = 40 ∧ bl0 = 0 ∧ cl0 = 0 then j15 x1 M else none
  | _, _ => none) else
  none
set_option maxRecDepth 1000000 in
theorem eK_restore (j15 : Int32 → Mem → Option (Int32 × Mem)) (M : Mem) : run (cK_restore) (KK_restore j15) rtI 400 (seek (cK_restore) 0) [aR (40, 0, 0), aU] [] M = mK_restoreb j15 M := id rfl
theorem lK_restore {E : EV} {l : Launch} {p : Program} {e : Env} {s : State} {m : MethodId} {args : Array Value} {below : List Frame} {meth : Method} {c : Code} (A : AllOK E l 2 "FreeLancesModel" prog_13_method_120_code 2 (some .int) outI (cK_restore)) (C : Cx E p s m args meth c "FreeLancesModel" prog_13_method_120_code 2 (some .int)) : ∀ (M : Mem) (res : (Int32 × Mem)), mK_restore M = some res → Wm E p l e 2 s m args below meth c 2 0 [aR (40, 0, 0), aU] [] M (outI res).1 (outI res).2 := by
  intro M res h
  refine run_at C A rfl hrtI (n := 400) ((eK_restore (mK_restore_15 fuel) M).trans h) ?_
  intro t als st M hk
  unfold KK_restore at hk
  split at hk
  · rename_i ht
    subst ht
    split at hk
    · split at hk
      · rename_i hc
        obtain ⟨rfl, rfl, rfl⟩ := hc
        exact lK_restore_15 A C _ _ _ _ hk
      · cases hk
    · cases hk
  cases hk
def dK_restore {β : Type} : Den β := fun as M k => match as with
  | [.inr (.inr (.inl (al0, bl0, cl0)))] => if al0 = 40 ∧ bl0 = 0 ∧ cl0 = 0 then (mK_restore M).bind fun q => k (aI q.1) q.2 else none
  | _ => none
theorem wK_restore {E : EV} (hsd : E.2.2.2 = 1) (l : Launch) (M : Mem) (q : (Int32 × Mem)) (hq : mK_restore M = some q) : Con E l 2 yK_restore prog_13_method_120_code 2 (some .int) [aR (40, 0, 0)] M (outI q).1 (outI q).2 := by
  refine con_of iK_restore (Nat.le_of_ble_eq_true rfl) ?_
  intro p e s m args below meth c C
  exact lK_restore (oK_restore hsd l) C M _ hq
theorem kK_restore {E : EV} (hsd : E.2.2.2 = 1) (l : Launch) {β : Type} : DenOK E l 2 yK_restore prog_13_method_120_code 2 (some .int) true (dK_restore (β := β)) := by
  intro as M k res h
  unfold dK_restore at h
  split at h
  ·
    split at h
    · rename_i hc
      obtain ⟨rfl, rfl, rfl⟩ := hc
      obtain ⟨q, hq, hk⟩ := Option.bind_eq_some_iff.mp h
      exact ⟨aI q.1, q.2, hk, rfl, wK_restore hsd l M q hq⟩
    · cases h
  · cases h
theorem qK_restore {β : Type} : RecOK 40 (dK_restore (β := β)) := by
  intro as M k res h
  unfold dK_restore at h
  split at h
  ·
    split at h
    · rename_i hc
      obtain ⟨rfl, rfl, rfl⟩ := hc
      exact ⟨_, _, _, rfl⟩
    · cases h
  · cases h
/-! ===== FreeLancesModel.tell(I)I ===== -/
abbrev yK_tell : MethodName := ⟨"FreeLancesModel", "tell", "(I)I"⟩
theorem iK_tell : MI yK_tell prog_13_method_121_code 2 (some .int) 1 := ⟨tw1794, tw108, ⟨by decide, by decide⟩, by decide +kernel, by decide, by decide⟩
def cK_tell : List (Ent (Int32 × Mem)) := [(false, 0, 1, sLdA 0),
  (false, 1, 3, sGet 40 (fun w i M => aR (41, 0, 0))),
  (false, 4, 2, sC 8),
  (false, 6, 1, sIald 41 1502),
  (false, 7, 2, sC 20),
  (false, 9, 3, sCmpNe 18),
  (false, 12, 1, sLdA 0),
  (false, 13, 1, sC 4),
  (false, 14, 3, sInv 2 true dK_finds),
  (false, 17, 1, sRetI),
  (false, 18, 1, sLdA 0),
  (false, 19, 3, sGet 40 (fun w i M => aR (41, 0, 0))),
  (false, 22, 3, sC 1482),
  (false, 25, 1, sLdA 0),
  (false, 26, 3, sGet 40 (fun w i M => aR (41, 0, 0))),
  (false, 29, 2, sC 8),
  (false, 31, 1, sIald 41 1502),
  (false, 32, 1, sBin (fun x y => x + y)),
  (false, 33, 1, sLdI 1),
  (false, 34, 1, sIast 41 1502),
  (false, 35, 1, sLdA 0),
  (false, 36, 3, sGet 40 (fun w i M => aR (41, 0, 0))),
  (false, 39, 2, sC 8),
  (false, 41, 1, sDup2),
  (false, 42, 1, sIald 41 1502),
  (false, 43, 1, sC 1),
  (false, 44, 1, sBin (fun x y => x + y)),
  (false, 45, 1, sIast 41 1502),
  (false, 46, 1, sLdA 0),
  (false, 47, 3, sGet 40 (fun w i M => aR (41, 0, 0))),
  (false, 50, 2, sC 8),
  (false, 52, 1, sIald 41 1502),
  (false, 53, 1, sRetI)]
theorem oK_tell {E : EV} (hsd : E.2.2.2 = 1) (l : Launch) : AllOK E l 2 "FreeLancesModel" prog_13_method_121_code 2 (some .int) outI (cK_tell) := by
  refine ak (ok_aload_n (k := 0) rfl (by decide +kernel)) ?_
  refine ak (ok_get (k := 0) ck11 kd40 (by decide) (fun _ _ _ => rfl) (vf_40_0 hsd) tw1242 (by decide +kernel)) ?_
  refine ak (ok_bipush (n := 8) (by decide) (by decide +kernel)) ?_
  refine ak (ok_iald kd41 (by decide) (by decide +kernel)) ?_
  refine ak (ok_bipush (n := 20) (by decide) (by decide +kernel)) ?_
  refine ak (ok_icmp_ne (off := 9) (by decide) (by decide +kernel)) ?_
  refine ak (ok_aload_n (k := 0) rfl (by decide +kernel)) ?_
  refine ak (ok_iconst (n := 4) (by decide) (by decide +kernel)) ?_
  refine ak (ok_invV (r := 40) (kK_finds hsd l) qK_finds ck11 kd40 iK_finds tw1334 tw37 (by decide) tw1332 (by decide +kernel)) ?_
  refine ak (ok_ireturn rfl (by decide +kernel)) ?_
  refine ak (ok_aload_n (k := 0) rfl (by decide +kernel)) ?_
  refine ak (ok_get (k := 0) ck11 kd40 (by decide) (fun _ _ _ => rfl) (vf_40_0 hsd) tw1242 (by decide +kernel)) ?_
  refine ak (ok_sipush (n := 1482) (by decide) (by decide +kernel)) ?_
  refine ak (ok_aload_n (k := 0) rfl (by decide +kernel)) ?_
  refine ak (ok_get (k := 0) ck11 kd40 (by decide) (fun _ _ _ => rfl) (vf_40_0 hsd) tw1242 (by decide +kernel)) ?_
  refine ak (ok_bipush (n := 8) (by decide) (by decide +kernel)) ?_
  refine ak (ok_iald kd41 (by decide) (by decide +kernel)) ?_
  refine ak (ok_iadd (by decide +kernel)) ?_
  refine ak (ok_iload_n (k := 1) rfl (by decide +kernel)) ?_
  refine ak (ok_iast kd41 (by decide) (by decide) (by decide +kernel)) ?_
  refine ak (ok_aload_n (k := 0) rfl (by decide +kernel)) ?_
  refine ak (ok_get (k := 0) ck11 kd40 (by decide) (fun _ _ _ => rfl) (vf_40_0 hsd) tw1242 (by decide +kernel)) ?_
  refine ak (ok_bipush (n := 8) (by decide) (by decide +kernel)) ?_
  refine ak (ok_dup2 (by decide +kernel)) ?_
  refine ak (ok_iald kd41 (by decide) (by decide +kernel)) ?_
  refine ak (ok_iconst (n := 1) (by decide) (by decide +kernel)) ?_
  refine ak (ok_iadd (by decide +kernel)) ?_
  refine ak (ok_iast kd41 (by decide) (by decide) (by decide +kernel)) ?_
  refine ak (ok_aload_n (k := 0) rfl (by decide +kernel)) ?_
  refine ak (ok_get (k := 0) ck11 kd40 (by decide) (fun _ _ _ => rfl) (vf_40_0 hsd) tw1242 (by decide +kernel)) ?_
  refine ak (ok_bipush (n := 8) (by decide) (by decide +kernel)) ?_
  refine ak (ok_iald kd41 (by decide) (by decide +kernel)) ?_
  refine ak (ok_ireturn rfl (by decide +kernel)) ?_
  exact trivial
set_option maxRecDepth 1000000 in
theorem eK_tell (x1 : Int32) (M : Mem) : run (cK_tell) (fun _ _ _ _ => none) rtI 400 (seek (cK_tell) 0) [aR (40, 0, 0), aI x1] [] M = mK_tell x1 M := id rfl
theorem lK_tell {E : EV} {l : Launch} {p : Program} {e : Env} {s : State} {m : MethodId} {args : Array Value} {below : List Frame} {meth : Method} {c : Code} (A : AllOK E l 2 "FreeLancesModel" prog_13_method_121_code 2 (some .int) outI (cK_tell)) (C : Cx E p s m args meth c "FreeLancesModel" prog_13_method_121_code 2 (some .int)) : ∀ (x1 : Int32) (M : Mem) (res : (Int32 × Mem)), mK_tell x1 M = some res → Wm E p l e 2 s m args below meth c 2 0 [aR (40, 0, 0), aI x1] [] M (outI res).1 (outI res).2 := by
  intro x1 M res h
  refine run_at C A rfl hrtI (n := 400) ((eK_tell x1 M).trans h) ?_
  intro t als st M hk; cases hk
def dK_tell {β : Type} : Den β := fun as M k => match as with
  | [.inr (.inr (.inl (al0, bl0, cl0))), .inl x1] => if al0 = 40 ∧ bl0 = 0 ∧ cl0 = 0 then (mK_tell x1 M).bind fun q => k (aI q.1) q.2 else none
  | _ => none
theorem wK_tell {E : EV} (hsd : E.2.2.2 = 1) (l : Launch) (x1 : Int32) (M : Mem) (q : (Int32 × Mem)) (hq : mK_tell x1 M = some q) : Con E l 2 yK_tell prog_13_method_121_code 2 (some .int) [aR (40, 0, 0), aI x1] M (outI q).1 (outI q).2 := by
  refine con_of iK_tell (Nat.le_of_ble_eq_true rfl) ?_
  intro p e s m args below meth c C
  exact lK_tell (oK_tell hsd l) C x1 M _ hq
theorem kK_tell {E : EV} (hsd : E.2.2.2 = 1) (l : Launch) {β : Type} : DenOK E l 2 yK_tell prog_13_method_121_code 2 (some .int) true (dK_tell (β := β)) := by
  intro as M k res h
  unfold dK_tell at h
  split at h
  ·
    split at h
    · rename_i hc
      obtain ⟨rfl, rfl, rfl⟩ := hc
      obtain ⟨q, hq, hk⟩ := Option.bind_eq_some_iff.mp h
      exact ⟨aI q.1, q.2, hk, rfl, wK_tell hsd l _ M q hq⟩
    · cases h
  · cases h
theorem qK_tell {β : Type} : RecOK 40 (dK_tell (β := β)) := by
  intro as M k res h
  unfold dK_tell at h
  split at h
  ·
    split at h
    · rename_i hc
      obtain ⟨rfl, rfl, rfl⟩ := hc
      exact ⟨_, _, _, rfl⟩
    · cases h
  · cases h
