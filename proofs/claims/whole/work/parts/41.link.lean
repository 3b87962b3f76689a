/-! ===== FreeLancesModel.hiring(II)I ===== -/
abbrev yK_hiring : MethodName := ⟨"FreeLancesModel", "hiring", "(II)I"⟩
theorem iK_hiring : MI yK_hiring prog_13_method_95_code 4 (some .int) 2 := ⟨tw1690, tw108, ⟨by decide, by decide⟩, by decide +kernel, by decide, by decide⟩
def cK_hiring : List (Ent (Int32 × Mem)) := [(false, 0, 1, sLdI 1),
  (false, 1, 3, sInv 1 true dK_isSheet),
  (false, 4, 3, sIfNe 13),
  (false, 7, 1, sLdA 0),
  (false, 8, 1, sC 1),
  (false, 9, 3, sInv 2 true dK_finds),
  (false, 12, 1, sRetI),
  (false, 13, 1, sLdA 0),
  (false, 14, 3, sGet 40 (fun w i M => aR (64, 0, 0))),
  (false, 17, 1, sLdI 1),
  (false, 18, 1, sIald 64 4),
  (false, 19, 3, sIfNe 28),
  (false, 22, 1, sLdA 0),
  (false, 23, 1, sC 2),
  (false, 24, 3, sInv 2 true dK_finds),
  (false, 27, 1, sRetI),
  (false, 28, 1, sLdA 0),
  (false, 29, 1, sLdI 1),
  (false, 30, 1, sC 5),
  (false, 31, 3, sInv 3 true dK_isOfThrees),
  (false, 34, 3, sIfNe 43),
  (false, 37, 1, sLdA 0),
  (false, 38, 1, sC 5),
  (false, 39, 3, sInv 2 true dK_finds),
  (false, 42, 1, sRetI),
  (false, 43, 1, sLdI 2),
  (false, 44, 1, sC (-1)),
  (false, 45, 1, sLdA 0),
  (false, 46, 3, sGet 40 (fun w i M => aR (65, 0, 0))),
  (false, 49, 1, sLdI 1),
  (false, 50, 1, sIald 65 4),
  (false, 51, 1, sC 3),
  (false, 52, 1, sBin0 (fun x y => x / y)),
  (false, 53, 1, sC 1),
  (false, 54, 1, sBin (fun x y => x - y)),
  (false, 55, 3, sInv 3 true dK_in),
  (false, 58, 3, sIfNe 67),
  (false, 61, 1, sLdA 0),
  (false, 62, 1, sC 1),
  (false, 63, 3, sInv 2 true dK_finds),
  (false, 66, 1, sRetI),
  (false, 67, 1, sLdA 0),
  (false, 68, 1, sLdI 1),
  (false, 69, 3, sPut 40 19),
  (false, 72, 1, sLdA 0),
  (false, 73, 1, sC (-1)),
  (false, 74, 3, sPut 40 20),
  (false, 77, 1, sC 0),
  (false, 78, 1, sStI 3),
  (true, 79, 1, sLdI 3),
  (false, 80, 1, sLdA 0),
  (false, 81, 3, sGet 40 (fun w i M => aR (41, 0, 0))),
  (false, 84, 1, sC 2),
  (false, 85, 1, sIald 41 1502),
  (false, 86, 3, sCmpGe 107),
  (false, 89, 1, sLdA 0),
  (false, 90, 3, sGet 40 (fun w i M => aR (59, 0, 0))),
  (false, 93, 1, sLdI 3),
  (false, 94, 1, sLdA 0),
  (false, 95, 1, sLdI 3),
  (false, 96, 1, sC 0),
  (false, 97, 3, sInv 3 true dK_manySo),
  (false, 100, 1, sIast 59 5),
  (false, 101, 3, sInc 3 1),
  (false, 104, 3, sGoto 79),
  (false, 107, 1, sLdA 0),
  (false, 108, 1, sC 0),
  (false, 109, 1, sC (-1)),
  (false, 110, 1, sC 0),
  (false, 111, 3, sInv 4 false (dK_hires xK_hires)),
  (false, 114, 1, sLdI 2),
  (false, 115, 3, sIfGe 125),
  (false, 118, 1, sLdA 0),
  (false, 119, 3, sGet 40 (fun w i M => aI (M 40 w i 20))),
  (false, 122, 3, sGoto 131),
  (false, 125, 1, sLdA 0),
  (false, 126, 3, sGet 40 (fun w i M => aR (58, 0, 0))),
  (false, 129, 1, sLdI 2),
  (false, 130, 1, sIald 58 5),
  (false, 131, 1, sRetI)]
theorem oK_hiring {E : EV} (hsd : E.2.2.2 = 1) (l : Launch) : AllOK E l 61 "FreeLancesModel" prog_13_method_95_code 4 (some .int) outI (cK_hiring) := by
  refine ak (ok_iload_n (k := 1) rfl (by decide +kernel)) ?_
  refine ak (ok_invS (kK_isSheet hsd l) iK_isSheet tw1625 (by decide) tw1624 (by decide +kernel)) ?_
  refine ak (ok_if_ne (off := 9) (by decide) (by decide +kernel)) ?_
  refine ak (ok_aload_n (k := 0) rfl (by decide +kernel)) ?_
  refine ak (ok_iconst (n := 1) (by decide) (by decide +kernel)) ?_
  refine ak (ok_invV (r := 40) (kK_finds hsd l) qK_finds ck11 kd40 iK_finds tw1334 tw37 (by decide) tw1332 (by decide +kernel)) ?_
  refine ak (ok_ireturn rfl (by decide +kernel)) ?_
  refine ak (ok_aload_n (k := 0) rfl (by decide +kernel)) ?_
  refine ak (ok_get (k := 23) ck11 kd40 (by decide) (fun _ _ _ => rfl) (vf_40_23 hsd) tw1265 (by decide +kernel)) ?_
  refine ak (ok_iload_n (k := 1) rfl (by decide +kernel)) ?_
  refine ak (ok_iald kd64 (by decide) (by decide +kernel)) ?_
  refine ak (ok_if_ne (off := 9) (by decide) (by decide +kernel)) ?_
  refine ak (ok_aload_n (k := 0) rfl (by decide +kernel)) ?_
  refine ak (ok_iconst (n := 2) (by decide) (by decide +kernel)) ?_
  refine ak (ok_invV (r := 40) (kK_finds hsd l) qK_finds ck11 kd40 iK_finds tw1334 tw37 (by decide) tw1332 (by decide +kernel)) ?_
  refine ak (ok_ireturn rfl (by decide +kernel)) ?_
  refine ak (ok_aload_n (k := 0) rfl (by decide +kernel)) ?_
  refine ak (ok_iload_n (k := 1) rfl (by decide +kernel)) ?_
  refine ak (ok_iconst (n := 5) (by decide) (by decide +kernel)) ?_
  refine ak (ok_invV (r := 40) (kK_isOfThrees hsd l) qK_isOfThrees ck11 kd40 iK_isOfThrees tw1661 tw77 (by decide) tw1659 (by decide +kernel)) ?_
  refine ak (ok_if_ne (off := 9) (by decide) (by decide +kernel)) ?_
  refine ak (ok_aload_n (k := 0) rfl (by decide +kernel)) ?_
  refine ak (ok_iconst (n := 5) (by decide) (by decide +kernel)) ?_
  refine ak (ok_invV (r := 40) (kK_finds hsd l) qK_finds ck11 kd40 iK_finds tw1334 tw37 (by decide) tw1332 (by decide +kernel)) ?_
  refine ak (ok_ireturn rfl (by decide +kernel)) ?_
  refine ak (ok_iload_n (k := 2) rfl (by decide +kernel)) ?_
  refine ak (ok_iconst (n := (-1)) (by decide) (by decide +kernel)) ?_
  refine ak (ok_aload_n (k := 0) rfl (by decide +kernel)) ?_
  refine ak (ok_get (k := 24) ck11 kd40 (by decide) (fun _ _ _ => rfl) (vf_40_24 hsd) tw1266 (by decide +kernel)) ?_
  refine ak (ok_iload_n (k := 1) rfl (by decide +kernel)) ?_
  refine ak (ok_iald kd65 (by decide) (by decide +kernel)) ?_
  refine ak (ok_iconst (n := 3) (by decide) (by decide +kernel)) ?_
  refine ak (ok_idiv (by decide +kernel)) ?_
  refine ak (ok_iconst (n := 1) (by decide) (by decide +kernel)) ?_
  refine ak (ok_isub (by decide +kernel)) ?_
  refine ak (ok_invS (kK_in hsd l) iK_in tw1330 (by decide) tw1329 (by decide +kernel)) ?_
  refine ak (ok_if_ne (off := 9) (by decide) (by decide +kernel)) ?_
  refine ak (ok_aload_n (k := 0) rfl (by decide +kernel)) ?_
  refine ak (ok_iconst (n := 1) (by decide) (by decide +kernel)) ?_
  refine ak (ok_invV (r := 40) (kK_finds hsd l) qK_finds ck11 kd40 iK_finds tw1334 tw37 (by decide) tw1332 (by decide +kernel)) ?_
  refine ak (ok_ireturn rfl (by decide +kernel)) ?_
  refine ak (ok_aload_n (k := 0) rfl (by decide +kernel)) ?_
  refine ak (ok_iload_n (k := 1) rfl (by decide +kernel)) ?_
  refine ak (ok_put (k := 19) ck11 kd40 (by decide) (fun _ _ _ => rfl) rfl rfl (by decide) tw1261 (by decide +kernel)) ?_
  refine ak (ok_aload_n (k := 0) rfl (by decide +kernel)) ?_
  refine ak (ok_iconst (n := (-1)) (by decide) (by decide +kernel)) ?_
  refine ak (ok_put (k := 20) ck11 kd40 (by decide) (fun _ _ _ => rfl) rfl rfl (by decide) tw1262 (by decide +kernel)) ?_
  refine ak (ok_iconst (n := 0) (by decide) (by decide +kernel)) ?_
  refine ak (ok_istore_n (k := 3) rfl (by decide) (by decide +kernel)) ?_
  refine ak (ok_iload_n (k := 3) rfl (by decide +kernel)) ?_
  refine ak (ok_aload_n (k := 0) rfl (by decide +kernel)) ?_
  refine ak (ok_get (k := 0) ck11 kd40 (by decide) (fun _ _ _ => rfl) (vf_40_0 hsd) tw1242 (by decide +kernel)) ?_
  refine ak (ok_iconst (n := 2) (by decide) (by decide +kernel)) ?_
  refine ak (ok_iald kd41 (by decide) (by decide +kernel)) ?_
  refine ak (ok_icmp_ge (off := 21) (by decide) (by decide +kernel)) ?_
  refine ak (ok_aload_n (k := 0) rfl (by decide +kernel)) ?_
  refine ak (ok_get (k := 18) ck11 kd40 (by decide) (fun _ _ _ => rfl) (vf_40_18 hsd) tw1260 (by decide +kernel)) ?_
  refine ak (ok_iload_n (k := 3) rfl (by decide +kernel)) ?_
  refine ak (ok_aload_n (k := 0) rfl (by decide +kernel)) ?_
  refine ak (ok_iload_n (k := 3) rfl (by decide +kernel)) ?_
  refine ak (ok_iconst (n := 0) (by decide) (by decide +kernel)) ?_
  refine ak (ok_invV (r := 40) (kK_manySo hsd l) qK_manySo ck11 kd40 iK_manySo tw1404 tw45 (by decide) tw1402 (by decide +kernel)) ?_
  refine ak (ok_iast kd59 (by decide) (by decide) (by decide +kernel)) ?_
  refine ak (ok_iinc (n := 1) (by decide) (by decide) (by decide +kernel)) ?_
  refine ak (ok_goto (off := (-25)) (by decide) (by decide +kernel)) ?_
  refine ak (ok_aload_n (k := 0) rfl (by decide +kernel)) ?_
  refine ak (ok_iconst (n := 0) (by decide) (by decide +kernel)) ?_
  refine ak (ok_iconst (n := (-1)) (by decide) (by decide +kernel)) ?_
  refine ak (ok_iconst (n := 0) (by decide) (by decide +kernel)) ?_
  refine ak (ok_invV (r := 40) (kxK_hires hsd l) (qK_hires xK_hires) ck11 kd40 iK_hires tw1693 tw80 (by decide) tw1691 (by decide +kernel)) ?_
  refine ak (ok_iload_n (k := 2) rfl (by decide +kernel)) ?_
  refine ak (ok_if_ge (off := 10) (by decide) (by decide +kernel)) ?_
  refine ak (ok_aload_n (k := 0) rfl (by decide +kernel)) ?_
  refine ak (ok_get (k := 20) ck11 kd40 (by decide) (fun _ _ _ => rfl) (fun _ _ _ _ _ => trivial) tw1262 (by decide +kernel)) ?_
  refine ak (ok_goto (off := 9) (by decide) (by decide +kernel)) ?_
  refine ak (ok_aload_n (k := 0) rfl (by decide +kernel)) ?_
  refine ak (ok_get (k := 17) ck11 kd40 (by decide) (fun _ _ _ => rfl) (vf_40_17 hsd) tw1259 (by decide +kernel)) ?_
  refine ak (ok_iload_n (k := 2) rfl (by decide +kernel)) ?_
  refine ak (ok_iald kd58 (by decide) (by decide +kernel)) ?_
  refine ak (ok_ireturn rfl (by decide +kernel)) ?_
  exact trivial
def KK_hiring_79 (j79 : Int32 → Int32 → Mem → Option (Int32 × Mem)) : Jm (Int32 × Mem) := fun t als st M =>
  if t = 79 then (match als, st with
  | [.inr (.inr (.inl (al0, bl0, cl0))), _, .inl x2, .inl x3], [] => if al0 = 40 ∧ bl0 = 0 ∧ cl0 = 0 then j79 x2 x3 M else none
  | _, _ => none) else
  none
set_option maxRecDepth 1000000 in
theorem eK_hiring_79 (j79 : Int32 → Int32 → Mem → Option (Int32 × Mem)) (x2 : Int32) (x3 : Int32) (M : Mem) (u1 : AV) : run (cK_hiring) (KK_hiring_79 j79) rtI 400 (seek (cK_hiring) 79) [aR (40, 0, 0), u1, aI x2, aI x3] [] M = mK_hiring_79b j79 x2 x3 M := id rfl
theorem lK_hiring_79 {E : EV} {l : Launch} {p : Program} {e : Env} {s : State} {m : MethodId} {args : Array Value} {below : List Frame} {meth : Method} {c : Code} (A : AllOK E l 61 "FreeLancesModel" prog_13_method_95_code 4 (some .int) outI (cK_hiring)) (C : Cx E p s m args meth c "FreeLancesModel" prog_13_method_95_code 4 (some .int)) : ∀ (n : Nat), ∀ (x2 : Int32) (x3 : Int32) (M : Mem) (res : (Int32 × Mem)), mK_hiring_79 n x2 x3 M = some res → ∀ (u1 : AV), Wm E p l e 61 s m args below meth c 4 79 [aR (40, 0, 0), u1, aI x2, aI x3] [] M (outI res).1 (outI res).2 := by
  intro n
  induction n with
  | zero => intro _ _ M res h; cases h
  | succ n ih =>
    intro x2 x3 M res h u1
    refine run_at C A rfl hrtI (n := 400) ((eK_hiring_79 (mK_hiring_79 n) x2 x3 M u1).trans h) ?_
    intro t als st M hk
    unfold KK_hiring_79 at hk
    split at hk
    · rename_i ht
      subst ht
      split at hk
      · split at hk
        · rename_i hc
          obtain ⟨rfl, rfl, rfl⟩ := hc
          exact ih _ _ _ _ hk _
        · cases hk
      · cases hk
    cases hk
def KK_hiring (j79 : Int32 → Int32 → Mem → Option (Int32 × Mem)) : Jm (Int32 × Mem) := fun t als st M =>
  if t = 79 then (match als, st with
  | [.inr (.inr (.inl (al0, bl0, cl0))), _, .inl x2, .inl x3], [] => if al0 = 40 ∧ bl0 = 0 ∧ cl0 = 0 then j79 x2 x3 M else none
  | _, _ => none) else
  none
set_option maxRecDepth 1000000 in
theorem eK_hiring (j79 : Int32 → Int32 → Mem → Option (Int32 × Mem)) (x1 : Int32) (x2 : Int32) (M : Mem) : run (cK_hiring) (KK_hiring j79) rtI 400 (seek (cK_hiring) 0) [aR (40, 0, 0), aI x1, aI x2, aU] [] M = mK_hiringb j79 x1 x2 M := id rfl
theorem lK_hiring {E : EV} {l : Launch} {p : Program} {e : Env} {s : State} {m : MethodId} {args : Array Value} {below : List Frame} {meth : Method} {c : Code} (A : AllOK E l 61 "FreeLancesModel" prog_13_method_95_code 4 (some .int) outI (cK_hiring)) (C : Cx E p s m args meth c "FreeLancesModel" prog_13_method_95_code 4 (some .int)) : ∀ (x1 : Int32) (x2 : Int32) (M : Mem) (res : (Int32 × Mem)), mK_hiring x1 x2 M = some res → Wm E p l e 61 s m args below meth c 4 0 [aR (40, 0, 0), aI x1, aI x2, aU] [] M (outI res).1 (outI res).2 := by
  intro x1 x2 M res h
  refine run_at C A rfl hrtI (n := 400) ((eK_hiring (mK_hiring_79 fuel) x1 x2 M).trans h) ?_
  intro t als st M hk
  unfold KK_hiring at hk
  split at hk
  · rename_i ht
    subst ht
    split at hk
    · split at hk
      · rename_i hc
        obtain ⟨rfl, rfl, rfl⟩ := hc
        exact lK_hiring_79 A C _ _ _ _ _ hk _
      · cases hk
    · cases hk
  cases hk
def dK_hiring {β : Type} : Den β := fun as M k => match as with
  | [.inr (.inr (.inl (al0, bl0, cl0))), .inl x1, .inl x2] => if al0 = 40 ∧ bl0 = 0 ∧ cl0 = 0 then (mK_hiring x1 x2 M).bind fun q => k (aI q.1) q.2 else none
  | _ => none
theorem wK_hiring {E : EV} (hsd : E.2.2.2 = 1) (l : Launch) (x1 : Int32) (x2 : Int32) (M : Mem) (q : (Int32 × Mem)) (hq : mK_hiring x1 x2 M = some q) : Con E l 61 yK_hiring prog_13_method_95_code 4 (some .int) [aR (40, 0, 0), aI x1, aI x2] M (outI q).1 (outI q).2 := by
  refine con_of iK_hiring (Nat.le_of_ble_eq_true rfl) ?_
  intro p e s m args below meth c C
  exact lK_hiring (oK_hiring hsd l) C x1 x2 M _ hq
theorem kK_hiring {E : EV} (hsd : E.2.2.2 = 1) (l : Launch) {β : Type} : DenOK E l 61 yK_hiring prog_13_method_95_code 4 (some .int) true (dK_hiring (β := β)) := by
  intro as M k res h
  unfold dK_hiring at h
  split at h
  ·
    split at h
    · rename_i hc
      obtain ⟨rfl, rfl, rfl⟩ := hc
      obtain ⟨q, hq, hk⟩ := Option.bind_eq_some_iff.mp h
      exact ⟨aI q.1, q.2, hk, rfl, wK_hiring hsd l _ _ M q hq⟩
    · cases h
  · cases h
theorem qK_hiring {β : Type} : RecOK 40 (dK_hiring (β := β)) := by
  intro as M k res h
  unfold dK_hiring at h
  split at h
  ·
    split at h
    · rename_i hc
      obtain ⟨rfl, rfl, rfl⟩ := hc
      exact ⟨_, _, _, rfl⟩
    · cases h
  · cases h
/-! ===== FreeLancesModel.changes(III)V ===== -/
abbrev yK_changes : MethodName := ⟨"FreeLancesModel", "changes", "(III)V"⟩
theorem iK_changes : MI yK_changes prog_13_method_97_code 5 none 3 := ⟨tw1710, tw108, ⟨by decide, by decide⟩, by decide +kernel, by decide, by decide⟩
def cK_changes : List (Ent Mem) := [(false, 0, 1, sC 0),
  (false, 1, 2, sStI 4),
  (true, 3, 2, sLdI 4),
  (false, 5, 1, sLdA 0),
  (false, 6, 3, sGet 40 (fun w i M => aR (41, 0, 0))),
  (false, 9, 1, sC 3),
  (false, 10, 1, sIald 41 1502),
  (false, 11, 3, sCmpGe 53),
  (false, 14, 1, sLdA 0),
  (false, 15, 2, sLdI 4),
  (false, 17, 1, sC 0),
  (false, 18, 3, sInv 3 true dK_its),
  (false, 21, 1, sLdI 1),
  (false, 22, 3, sCmpNe 47),
  (false, 25, 1, sLdA 0),
  (false, 26, 2, sLdI 4),
  (false, 28, 1, sC 3),
  (false, 29, 3, sInv 3 true dK_its),
  (false, 32, 1, sLdI 2),
  (false, 33, 3, sCmpEq 39),
  (false, 36, 3, sGoto 47),
  (false, 39, 1, sLdA 0),
  (false, 40, 2, sLdI 4),
  (false, 42, 1, sLdI 3),
  (false, 43, 3, sInv 3 false dK_turns),
  (false, 46, 1, sRetV),
  (false, 47, 3, sInc 4 1),
  (false, 50, 3, sGoto 3),
  (false, 53, 1, sRetV)]
theorem oK_changes {E : EV} (hsd : E.2.2.2 = 1) (l : Launch) : AllOK E l 2 "FreeLancesModel" prog_13_method_97_code 5 none outV (cK_changes) := by
  refine ak (ok_iconst (n := 0) (by decide) (by decide +kernel)) ?_
  refine ak (ok_istore (by decide) (by decide +kernel)) ?_
  refine ak (ok_iload (by decide +kernel)) ?_
  refine ak (ok_aload_n (k := 0) rfl (by decide +kernel)) ?_
  refine ak (ok_get (k := 0) ck11 kd40 (by decide) (fun _ _ _ => rfl) (vf_40_0 hsd) tw1242 (by decide +kernel)) ?_
  refine ak (ok_iconst (n := 3) (by decide) (by decide +kernel)) ?_
  refine ak (ok_iald kd41 (by decide) (by decide +kernel)) ?_
  refine ak (ok_icmp_ge (off := 42) (by decide) (by decide +kernel)) ?_
  refine ak (ok_aload_n (k := 0) rfl (by decide +kernel)) ?_
  refine ak (ok_iload (by decide +kernel)) ?_
  refine ak (ok_iconst (n := 0) (by decide) (by decide +kernel)) ?_
  refine ak (ok_invV (r := 40) (kK_its hsd l) qK_its ck11 kd40 iK_its tw1408 tw46 (by decide) tw1406 (by decide +kernel)) ?_
  refine ak (ok_iload_n (k := 1) rfl (by decide +kernel)) ?_
  refine ak (ok_icmp_ne (off := 25) (by decide) (by decide +kernel)) ?_
  refine ak (ok_aload_n (k := 0) rfl (by decide +kernel)) ?_
  refine ak (ok_iload (by decide +kernel)) ?_
  refine ak (ok_iconst (n := 3) (by decide) (by decide +kernel)) ?_
  refine ak (ok_invV (r := 40) (kK_its hsd l) qK_its ck11 kd40 iK_its tw1408 tw46 (by decide) tw1406 (by decide +kernel)) ?_
  refine ak (ok_iload_n (k := 2) rfl (by decide +kernel)) ?_
  refine ak (ok_icmp_eq (off := 6) (by decide) (by decide +kernel)) ?_
  refine ak (ok_goto (off := 11) (by decide) (by decide +kernel)) ?_
  refine ak (ok_aload_n (k := 0) rfl (by decide +kernel)) ?_
  refine ak (ok_iload (by decide +kernel)) ?_
  refine ak (ok_iload_n (k := 3) rfl (by decide +kernel)) ?_
  refine ak (ok_invV (r := 40) (kK_turns hsd l) qK_turns ck11 kd40 iK_turns tw1463 tw55 (by decide) tw1461 (by decide +kernel)) ?_
  refine ak (ok_return rfl (by decide +kernel)) ?_
  refine ak (ok_iinc (n := 1) (by decide) (by decide) (by decide +kernel)) ?_
  refine ak (ok_goto (off := (-47)) (by decide) (by decide +kernel)) ?_
  refine ak (ok_return rfl (by decide +kernel)) ?_
  exact trivial
def KK_changes_3 (j3 : Int32 → Int32 → Int32 → Int32 → Mem → Option Mem) : Jm Mem := fun t als st M =>
  if t = 3 then (match als, st with
  | [.inr (.inr (.inl (al0, bl0, cl0))), .inl x1, .inl x2, .inl x3, .inl x4], [] => if al0 = 40 ∧ bl0 = 0 ∧ cl0 = 0 then j3 x1 x2 x3 x4 M else none
  | _, _ => none) else
  none
set_option maxRecDepth 1000000 in
theorem eK_changes_3 (j3 : Int32 → Int32 → Int32 → Int32 → Mem → Option Mem) (x1 : Int32) (x2 : Int32) (x3 : Int32) (x4 : Int32) (M : Mem) : run (cK_changes) (KK_changes_3 j3) rtV 400 (seek (cK_changes) 3) [aR (40, 0, 0), aI x1, aI x2, aI x3, aI x4] [] M = mK_changes_3b j3 x1 x2 x3 x4 M := id rfl
theorem lK_changes_3 {E : EV} {l : Launch} {p : Program} {e : Env} {s : State} {m : MethodId} {args : Array Value} {below : List Frame} {meth : Method} {c : Code} (A : AllOK E l 2 "FreeLancesModel" prog_13_method_97_code 5 none outV (cK_changes)) (C : Cx E p s m args meth c "FreeLancesModel" prog_13_method_97_code 5 none) : ∀ (n : Nat), ∀ (x1 : Int32) (x2 : Int32) (x3 : Int32) (x4 : Int32) (M : Mem) (res : Mem), mK_changes_3 n x1 x2 x3 x4 M = some res → Wm E p l e 2 s m args below meth c 5 3 [aR (40, 0, 0), aI x1, aI x2, aI x3, aI x4] [] M (outV res).1 (outV res).2 := by
  intro n
  induction n with
  | zero => intro _ _ _ _ M res h; cases h
  | succ n ih =>
    intro x1 x2 x3 x4 M res h
    refine run_at C A rfl hrtV (n := 400) ((eK_changes_3 (mK_changes_3 n) x1 x2 x3 x4 M).trans h) ?_
    intro t als st M hk
    unfold KK_changes_3 at hk
    split at hk
    · rename_i ht
      subst ht
      split at hk
      · split at hk
        · rename_i hc
          obtain ⟨rfl, rfl, rfl⟩ := hc
          exact ih _ _ _ _ _ _ hk
        · cases hk
      · cases hk
    cases hk
def KK_changes (j3 : Int32 → Int32 → Int32 → Int32 → Mem → Option Mem) : Jm Mem := fun t als st M =>
  if t = 3 then (match als, st with
  | [.inr (.inr (.inl (al0, bl0, cl0))), .inl x1, .inl x2, .inl x3, .inl x4], [] => if al0 = 40 ∧ bl0 = 0 ∧ cl0 = 0 then j3 x1 x2 x3 x4 M else none
  | _, _ => none) else
  none
set_option maxRecDepth 1000000 in
theorem eK_changes (j3 : Int32 → Int32 → Int32 → Int32 → Mem → Option Mem) (x1 : Int32) (x2 : Int32) (x3 : Int32) (M : Mem) : run (cK_changes) (KK_changes j3) rtV 400 (seek (cK_changes) 0) [aR (40, 0, 0), aI x1, aI x2, aI x3, aU] [] M = mK_changesb j3 x1 x2 x3 M := id rfl
theorem lK_changes {E : EV} {l : Launch} {p : Program} {e : Env} {s : State} {m : MethodId} {args : Array Value} {below : List Frame} {meth : Method} {c : Code} (A : AllOK E l 2 "FreeLancesModel" prog_13_method_97_code 5 none outV (cK_changes)) (C : Cx E p s m args meth c "FreeLancesModel" prog_13_method_97_code 5 none) : ∀ (x1 : Int32) (x2 : Int32) (x3 : Int32) (M : Mem) (res : Mem), mK_changes x1 x2 x3 M = some res → Wm E p l e 2 s m args below meth c 5 0 [aR (40, 0, 0), aI x1, aI x2, aI x3, aU] [] M (outV res).1 (outV res).2 := by
  intro x1 x2 x3 M res h
  refine run_at C A rfl hrtV (n := 400) ((eK_changes (mK_changes_3 fuel) x1 x2 x3 M).trans h) ?_
  intro t als st M hk
  unfold KK_changes at hk
  split at hk
  · rename_i ht
    subst ht
    split at hk
    · split at hk
      · rename_i hc
        obtain ⟨rfl, rfl, rfl⟩ := hc
        exact lK_changes_3 A C _ _ _ _ _ _ _ hk
      · cases hk
    · cases hk
  cases hk
def dK_changes {β : Type} : Den β := fun as M k => match as with
  | [.inr (.inr (.inl (al0, bl0, cl0))), .inl x1, .inl x2, .inl x3] => if al0 = 40 ∧ bl0 = 0 ∧ cl0 = 0 then (mK_changes x1 x2 x3 M).bind fun q => k aU q else none
  | _ => none
theorem wK_changes {E : EV} (hsd : E.2.2.2 = 1) (l : Launch) (x1 : Int32) (x2 : Int32) (x3 : Int32) (M : Mem) (q : Mem) (hq : mK_changes x1 x2 x3 M = some q) : Con E l 2 yK_changes prog_13_method_97_code 5 none [aR (40, 0, 0), aI x1, aI x2, aI x3] M (outV q).1 (outV q).2 := by
  refine con_of iK_changes (Nat.le_of_ble_eq_true rfl) ?_
  intro p e s m args below meth c C
  exact lK_changes (oK_changes hsd l) C x1 x2 x3 M _ hq
theorem kK_changes {E : EV} (hsd : E.2.2.2 = 1) (l : Launch) {β : Type} : DenOK E l 2 yK_changes prog_13_method_97_code 5 none false (dK_changes (β := β)) := by
  intro as M k res h
  unfold dK_changes at h
  split at h
  ·
    split at h
    · rename_i hc
      obtain ⟨rfl, rfl, rfl⟩ := hc
      obtain ⟨q, hq, hk⟩ := Option.bind_eq_some_iff.mp h
      exact ⟨aU, q, hk, rfl, wK_changes hsd l _ _ _ M q hq⟩
    · cases h
  · cases h
theorem qK_changes {β : Type} : RecOK 40 (dK_changes (β := β)) := by
  intro as M k res h
  unfold dK_changes at h
  split at h
  ·
    split at h
    · rename_i hc
      obtain ⟨rfl, rfl, rfl⟩ := hc
      exact ⟨_, _, _, rfl⟩
    · cases h
  · cases h
/-! ===== FreeLancesModel.eats(I)V ===== -/
abbrev yK_eats : MethodName := ⟨"FreeLancesModel", "eats", "(I)V"⟩
theorem iK_eats : MI yK_eats prog_13_method_96_code 7 none 1 := ⟨tw1706, tw108, ⟨by decide, by decide⟩, by decide +kernel, by decide, by decide⟩
def cK_eats : List (Ent Mem) := [(false, 0, 1, sLdA 0),
  (false, 1, 1, sLdI 1),
  (false, 2, 1, sC 0),
  (false, 3, 3, sInv 3 true dK_manySo),
  (false, 6, 1, sLdA 0),
  (false, 7, 1, sLdI 1),
  (false, 8, 1, sC 1),
  (false, 9, 3, sInv 3 true dK_manySo),
  (false, 12, 1, sBin (fun x y => x + y)),
  (false, 13, 1, sStI 2),
  (false, 14, 1, sLdA 0),
  (false, 15, 1, sLdI 1),
  (false, 16, 1, sC 1),
  (false, 17, 3, sInv 3 true dK_own),
  (false, 20, 1, sLdI 2),
  (false, 21, 3, sCmpGe 33),
  (false, 24, 1, sLdA 0),
  (false, 25, 1, sLdI 1),
  (false, 26, 1, sC 1),
  (false, 27, 3, sInv 3 true dK_own),
  (false, 30, 3, sGoto 34),
  (false, 33, 1, sLdI 2),
  (false, 34, 1, sStI 3),
  (false, 35, 1, sLdA 0),
  (false, 36, 1, sLdI 1),
  (false, 37, 1, sC 2),
  (false, 38, 3, sInv 3 true dK_own),
  (false, 41, 2, sStI 4),
  (false, 43, 2, sLdI 4),
  (false, 45, 3, sIfGe 52),
  (false, 48, 1, sC 0),
  (false, 49, 3, sGoto 78),
  (false, 52, 1, sLdA 0),
  (false, 53, 2, sLdI 4),
  (false, 55, 1, sC 1),
  (false, 56, 3, sInv 3 true dK_ofTown),
  (false, 59, 1, sLdI 2),
  (false, 60, 1, sLdI 3),
  (false, 61, 1, sBin (fun x y => x - y)),
  (false, 62, 3, sCmpGe 75),
  (false, 65, 1, sLdA 0),
  (false, 66, 2, sLdI 4),
  (false, 68, 1, sC 1),
  (false, 69, 3, sInv 3 true dK_ofTown),
  (false, 72, 3, sGoto 78),
  (false, 75, 1, sLdI 2),
  (false, 76, 1, sLdI 3),
  (false, 77, 1, sBin (fun x y => x - y)),
  (true, 78, 2, sStI 5),
  (false, 80, 1, sLdA 0),
  (false, 81, 1, sLdI 1),
  (false, 82, 1, sC 1),
  (false, 83, 1, sLdA 0),
  (false, 84, 1, sLdI 1),
  (false, 85, 1, sC 1),
  (false, 86, 3, sInv 3 true dK_own),
  (false, 89, 1, sLdI 3),
  (false, 90, 1, sBin (fun x y => x - y)),
  (false, 91, 3, sInv 4 false dK_sets),
  (false, 94, 2, sLdI 4),
  (false, 96, 3, sIfLt 109),
  (false, 99, 1, sLdA 0),
  (false, 100, 2, sLdI 4),
  (false, 102, 1, sC 1),
  (false, 103, 2, sLdI 5),
  (false, 105, 1, sUn (fun x => -x)),
  (false, 106, 3, sInv 4 false dK_townGets),
  (false, 109, 1, sLdA 0),
  (false, 110, 1, sLdI 1),
  (false, 111, 1, sC 5),
  (false, 112, 1, sLdI 3),
  (false, 113, 2, sLdI 5),
  (false, 115, 1, sBin (fun x y => x + y)),
  (false, 116, 1, sLdI 2),
  (false, 117, 3, sCmpGe 131),
  (false, 120, 1, sLdA 0),
  (false, 121, 1, sLdI 1),
  (false, 122, 1, sC 5),
  (false, 123, 3, sInv 3 true dK_own),
  (false, 126, 1, sC 1),
  (false, 127, 1, sBin (fun x y => x + y)),
  (false, 128, 3, sGoto 132),
  (false, 131, 1, sC 0),
  (true, 132, 3, sInv 4 false dK_sets),
  (false, 135, 1, sLdA 0),
  (false, 136, 1, sLdI 1),
  (false, 137, 1, sC 5),
  (false, 138, 3, sInv 3 true dK_own),
  (false, 141, 2, sStI 6),
  (false, 143, 2, sLdI 6),
  (false, 145, 2, sC 6),
  (false, 147, 3, sCmpLt 160),
  (false, 150, 1, sLdA 0),
  (false, 151, 1, sLdI 1),
  (false, 152, 1, sC 1),
  (false, 153, 1, sC 3),
  (false, 154, 3, sInv 4 false dK_changes),
  (false, 157, 3, sGoto 188),
  (false, 160, 2, sLdI 6),
  (false, 162, 1, sC 3),
  (false, 163, 3, sCmpLt 176),
  (false, 166, 1, sLdA 0),
  (false, 167, 1, sLdI 1),
  (false, 168, 1, sC 0),
  (false, 169, 1, sC 1),
  (false, 170, 3, sInv 4 false dK_changes),
  (false, 173, 3, sGoto 188),
  (false, 176, 2, sLdI 6),
  (false, 178, 3, sIfNe 188),
  (false, 181, 1, sLdA 0),
  (false, 182, 1, sLdI 1),
  (false, 183, 1, sC 1),
  (false, 184, 1, sC 0),
  (false, 185, 3, sInv 4 false dK_changes),
  (false, 188, 1, sRetV)]
theorem oK_eats {E : EV} (hsd : E.2.2.2 = 1) (l : Launch) : AllOK E l 3 "FreeLancesModel" prog_13_method_96_code 7 none outV (cK_eats) := by
  refine ak (ok_aload_n (k := 0) rfl (by decide +kernel)) ?_
  refine ak (ok_iload_n (k := 1) rfl (by decide +kernel)) ?_
  refine ak (ok_iconst (n := 0) (by decide) (by decide +kernel)) ?_
  refine ak (ok_invV (r := 40) (kK_manySo hsd l) qK_manySo ck11 kd40 iK_manySo tw1404 tw45 (by decide) tw1402 (by decide +kernel)) ?_
  refine ak (ok_aload_n (k := 0) rfl (by decide +kernel)) ?_
  refine ak (ok_iload_n (k := 1) rfl (by decide +kernel)) ?_
  refine ak (ok_iconst (n := 1) (by decide) (by decide +kernel)) ?_
  refine ak (ok_invV (r := 40) (kK_manySo hsd l) qK_manySo ck11 kd40 iK_manySo tw1404 tw45 (by decide) tw1402 (by decide +kernel)) ?_
  refine ak (ok_iadd (by decide +kernel)) ?_
  refine ak (ok_istore_n (k := 2) rfl (by decide) (by decide +kernel)) ?_
  refine ak (ok_aload_n (k := 0) rfl (by decide +kernel)) ?_
  refine ak (ok_iload_n (k := 1) rfl (by decide +kernel)) ?_
  refine ak (ok_iconst (n := 1) (by decide) (by decide +kernel)) ?_
  refine ak (ok_invV (r := 40) (kK_own hsd l) qK_own ck11 kd40 iK_own tw1363 tw41 (by decide) tw1361 (by decide +kernel)) ?_
  refine ak (ok_iload_n (k := 2) rfl (by decide +kernel)) ?_
  refine ak (ok_icmp_ge (off := 12) (by decide) (by decide +kernel)) ?_
  refine ak (ok_aload_n (k := 0) rfl (by decide +kernel)) ?_
  refine ak (ok_iload_n (k := 1) rfl (by decide +kernel)) ?_
  refine ak (ok_iconst (n := 1) (by decide) (by decide +kernel)) ?_
  refine ak (ok_invV (r := 40) (kK_own hsd l) qK_own ck11 kd40 iK_own tw1363 tw41 (by decide) tw1361 (by decide +kernel)) ?_
  refine ak (ok_goto (off := 4) (by decide) (by decide +kernel)) ?_
  refine ak (ok_iload_n (k := 2) rfl (by decide +kernel)) ?_
  refine ak (ok_istore_n (k := 3) rfl (by decide) (by decide +kernel)) ?_
  refine ak (ok_aload_n (k := 0) rfl (by decide +kernel)) ?_
  refine ak (ok_iload_n (k := 1) rfl (by decide +kernel)) ?_
  refine ak (ok_iconst (n := 2) (by decide) (by decide +kernel)) ?_
  refine ak (ok_invV (r := 40) (kK_own hsd l) qK_own ck11 kd40 iK_own tw1363 tw41 (by decide) tw1361 (by decide +kernel)) ?_
  refine ak (ok_istore (by decide) (by decide +kernel)) ?_
  refine ak (ok_iload (by decide +kernel)) ?_
  refine ak (ok_if_ge (off := 7) (by decide) (by decide +kernel)) ?_
  refine ak (ok_iconst (n := 0) (by decide) (by decide +kernel)) ?_
  refine ak (ok_goto (off := 29) (by decide) (by decide +kernel)) ?_
  refine ak (ok_aload_n (k := 0) rfl (by decide +kernel)) ?_
  refine ak (ok_iload (by decide +kernel)) ?_
  refine ak (ok_iconst (n := 1) (by decide) (by decide +kernel)) ?_
  refine ak (ok_invV (r := 40) (kK_ofTown hsd l) qK_ofTown ck11 kd40 iK_ofTown tw1359 tw40 (by decide) tw1357 (by decide +kernel)) ?_
  refine ak (ok_iload_n (k := 2) rfl (by decide +kernel)) ?_
  refine ak (ok_iload_n (k := 3) rfl (by decide +kernel)) ?_
  refine ak (ok_isub (by decide +kernel)) ?_
  refine ak (ok_icmp_ge (off := 13) (by decide) (by decide +kernel)) ?_
  refine ak (ok_aload_n (k := 0) rfl (by decide +kernel)) ?_
  refine ak (ok_iload (by decide +kernel)) ?_
  refine ak (ok_iconst (n := 1) (by decide) (by decide +kernel)) ?_
  refine ak (ok_invV (r := 40) (kK_ofTown hsd l) qK_ofTown ck11 kd40 iK_ofTown tw1359 tw40 (by decide) tw1357 (by decide +kernel)) ?_
  refine ak (ok_goto (off := 6) (by decide) (by decide +kernel)) ?_
  refine ak (ok_iload_n (k := 2) rfl (by decide +kernel)) ?_
  refine ak (ok_iload_n (k := 3) rfl (by decide +kernel)) ?_
  refine ak (ok_isub (by decide +kernel)) ?_
  refine ak (ok_istore (by decide) (by decide +kernel)) ?_
  refine ak (ok_aload_n (k := 0) rfl (by decide +kernel)) ?_
  refine ak (ok_iload_n (k := 1) rfl (by decide +kernel)) ?_
  refine ak (ok_iconst (n := 1) (by decide) (by decide +kernel)) ?_
  refine ak (ok_aload_n (k := 0) rfl (by decide +kernel)) ?_
  refine ak (ok_iload_n (k := 1) rfl (by decide +kernel)) ?_
  refine ak (ok_iconst (n := 1) (by decide) (by decide +kernel)) ?_
  refine ak (ok_invV (r := 40) (kK_own hsd l) qK_own ck11 kd40 iK_own tw1363 tw41 (by decide) tw1361 (by decide +kernel)) ?_
  refine ak (ok_iload_n (k := 3) rfl (by decide +kernel)) ?_
  refine ak (ok_isub (by decide +kernel)) ?_
  refine ak (ok_invV (r := 40) (kK_sets hsd l) qK_sets ck11 kd40 iK_sets tw1384 tw43 (by decide) tw1382 (by decide +kernel)) ?_
  refine ak (ok_iload (by decide +kernel)) ?_
  refine ak (ok_if_lt (off := 13) (by decide) (by decide +kernel)) ?_
  refine ak (ok_aload_n (k := 0) rfl (by decide +kernel)) ?_
  refine ak (ok_iload (by decide +kernel)) ?_
  refine ak (ok_iconst (n := 1) (by decide) (by decide +kernel)) ?_
  refine ak (ok_iload (by decide +kernel)) ?_
  refine ak (ok_ineg (by decide +kernel)) ?_
  refine ak (ok_invV (r := 40) (kK_townGets hsd l) qK_townGets ck11 kd40 iK_townGets tw1376 tw42 (by decide) tw1374 (by decide +kernel)) ?_
  refine ak (ok_aload_n (k := 0) rfl (by decide +kernel)) ?_
  refine ak (ok_iload_n (k := 1) rfl (by decide +kernel)) ?_
  refine ak (ok_iconst (n := 5) (by decide) (by decide +kernel)) ?_
  refine ak (ok_iload_n (k := 3) rfl (by decide +kernel)) ?_
  refine ak (ok_iload (by decide +kernel)) ?_
  refine ak (ok_iadd (by decide +kernel)) ?_
  refine ak (ok_iload_n (k := 2) rfl (by decide +kernel)) ?_
  refine ak (ok_icmp_ge (off := 14) (by decide) (by decide +kernel)) ?_
  refine ak (ok_aload_n (k := 0) rfl (by decide +kernel)) ?_
  refine ak (ok_iload_n (k := 1) rfl (by decide +kernel)) ?_
  refine ak (ok_iconst (n := 5) (by decide) (by decide +kernel)) ?_
  refine ak (ok_invV (r := 40) (kK_own hsd l) qK_own ck11 kd40 iK_own tw1363 tw41 (by decide) tw1361 (by decide +kernel)) ?_
  refine ak (ok_iconst (n := 1) (by decide) (by decide +kernel)) ?_
  refine ak (ok_iadd (by decide +kernel)) ?_
  refine ak (ok_goto (off := 4) (by decide) (by decide +kernel)) ?_
  refine ak (ok_iconst (n := 0) (by decide) (by decide +kernel)) ?_
  refine ak (ok_invV (r := 40) (kK_sets hsd l) qK_sets ck11 kd40 iK_sets tw1384 tw43 (by decide) tw1382 (by decide +kernel)) ?_
  refine ak (ok_aload_n (k := 0) rfl (by decide +kernel)) ?_
  refine ak (ok_iload_n (k := 1) rfl (by decide +kernel)) ?_
  refine ak (ok_iconst (n := 5) (by decide) (by decide +kernel)) ?_
  refine ak (ok_invV (r := 40) (kK_own hsd l) qK_own ck11 kd40 iK_own tw1363 tw41 (by decide) tw1361 (by decide +kernel)) ?_
  refine ak (ok_istore (by decide) (by decide +kernel)) ?_
  refine ak (ok_iload (by decide +kernel)) ?_
  refine ak (ok_bipush (n := 6) (by decide) (by decide +kernel)) ?_
  refine ak (ok_icmp_lt (off := 13) (by decide) (by decide +kernel)) ?_
  refine ak (ok_aload_n (k := 0) rfl (by decide +kernel)) ?_
  refine ak (ok_iload_n (k := 1) rfl (by decide +kernel)) ?_
  refine ak (ok_iconst (n := 1) (by decide) (by decide +kernel)) ?_
  refine ak (ok_iconst (n := 3) (by decide) (by decide +kernel)) ?_
  refine ak (ok_invV (r := 40) (kK_changes hsd l) qK_changes ck11 kd40 iK_changes tw1709 tw83 (by decide) tw1707 (by decide +kernel)) ?_
  refine ak (ok_goto (off := 31) (by decide) (by decide +kernel)) ?_
  refine ak (ok_iload (by decide +kernel)) ?_
  refine ak (ok_iconst (n := 3) (by decide) (by decide +kernel)) ?_
  refine ak (ok_icmp_lt (off := 13) (by decide) (by decide +kernel)) ?_
  refine ak (ok_aload_n (k := 0) rfl (by decide +kernel)) ?_
  refine ak (ok_iload_n (k := 1) rfl (by decide +kernel)) ?_
  refine ak (ok_iconst (n := 0) (by decide) (by decide +kernel)) ?_
  refine ak (ok_iconst (n := 1) (by decide) (by decide +kernel)) ?_
  refine ak (ok_invV (r := 40) (kK_changes hsd l) qK_changes ck11 kd40 iK_changes tw1709 tw83 (by decide) tw1707 (by decide +kernel)) ?_
  refine ak (ok_goto (off := 15) (by decide) (by decide +kernel)) ?_
  refine ak (ok_iload (by decide +kernel)) ?_
  refine ak (ok_if_ne (off := 10) (by decide) (by decide +kernel)) ?_
  refine ak (ok_aload_n (k := 0) rfl (by decide +kernel)) ?_
  refine ak (ok_iload_n (k := 1) rfl (by decide +kernel)) ?_
  refine ak (ok_iconst (n := 1) (by decide) (by decide +kernel)) ?_
  refine ak (ok_iconst (n := 0) (by decide) (by decide +kernel)) ?_
  refine ak (ok_invV (r := 40) (kK_changes hsd l) qK_changes ck11 kd40 iK_changes tw1709 tw83 (by decide) tw1707 (by decide +kernel)) ?_
  refine ak (ok_return rfl (by decide +kernel)) ?_
  exact trivial
set_option maxRecDepth 1000000 in
theorem eK_eats_132 (x1 : Int32) (y0 : Int32) (y1 : Int32) (y2 : Int32) (M : Mem) (u2 u3 u4 u5 u6 : AV) : run (cK_eats) (fun _ _ _ _ => none) rtV 400 (seek (cK_eats) 132) [aR (40, 0, 0), aI x1, u2, u3, u4, u5, u6] [aI y0, aI y1, aI y2, aR (40, 0, 0)] M = mK_eats_132b x1 y0 y1 y2 M := id rfl
theorem lK_eats_132 {E : EV} {l : Launch} {p : Program} {e : Env} {s : State} {m : MethodId} {args : Array Value} {below : List Frame} {meth : Method} {c : Code} (A : AllOK E l 3 "FreeLancesModel" prog_13_method_96_code 7 none outV (cK_eats)) (C : Cx E p s m args meth c "FreeLancesModel" prog_13_method_96_code 7 none) : ∀ (x1 : Int32) (y0 : Int32) (y1 : Int32) (y2 : Int32) (M : Mem) (res : Mem), mK_eats_132 x1 y0 y1 y2 M = some res → ∀ (u2 u3 u4 u5 u6 : AV), Wm E p l e 3 s m args below meth c 7 132 [aR (40, 0, 0), aI x1, u2, u3, u4, u5, u6] [aI y0, aI y1, aI y2, aR (40, 0, 0)] M (outV res).1 (outV res).2 := by
  intro x1 y0 y1 y2 M res h u2 u3 u4 u5 u6
  refine run_at C A rfl hrtV (n := 400) ((eK_eats_132 x1 y0 y1 y2 M u2 u3 u4 u5 u6).trans h) ?_
  intro t als st M hk; cases hk
def KK_eats_78 (j132 : Int32 → Int32 → Int32 → Int32 → Mem → Option Mem) : Jm Mem := fun t als st M =>
  if t = 132 then (match als, st with
  | [.inr (.inr (.inl (al0, bl0, cl0))), .inl x1, _, _, _, _, _], [.inl y0, .inl y1, .inl y2, .inr (.inr (.inl (as3, bs3, cs3)))] => if al0 = 40 ∧ bl0 = 0 ∧ cl0 = 0 ∧ as3 = 40 ∧ bs3 = 0 ∧ cs3 = 0 then j132 x1 y0 y1 y2 M else none
  | _, _ => none) else
  none
set_option maxRecDepth 1000000 in
theorem eK_eats_78 (j132 : Int32 → Int32 → Int32 → Int32 → Mem → Option Mem) (x1 : Int32) (x2 : Int32) (x3 : Int32) (x4 : Int32) (y0 : Int32) (M : Mem) (u5 u6 : AV) : run (cK_eats) (KK_eats_78 j132) rtV 400 (seek (cK_eats) 78) [aR (40, 0, 0), aI x1, aI x2, aI x3, aI x4, u5, u6] [aI y0] M = mK_eats_78b j132 x1 x2 x3 x4 y0 M := id rfl
theorem lK_eats_78 {E : EV} {l : Launch} {p : Program} {e : Env} {s : State} {m : MethodId} {args : Array Value} {below : List Frame} {meth : Method} {c : Code} (A : AllOK E l 3 "FreeLancesModel" prog_13_method_96_code 7 none outV (cK_eats)) (C : Cx E p s m args meth c "FreeLancesModel" prog_13_method_96_code 7 none) : ∀ (x1 : Int32) (x2 : Int32) (x3 : Int32) (x4 : Int32) (y0 : Int32) (M : Mem) (res : Mem), mK_eats_78 x1 x2 x3 x4 y0 M = some res → ∀ (u5 u6 : AV), Wm E p l e 3 s m args below meth c 7 78 [aR (40, 0, 0), aI x1, aI x2, aI x3, aI x4, u5, u6] [aI y0] M (outV res).1 (outV res).2 := by
  intro x1 x2 x3 x4 y0 M res h u5 u6
  refine run_at C A rfl hrtV (n := 400) ((eK_eats_78 mK_eats_132 x1 x2 x3 x4 y0 M u5 u6).trans h) ?_
  intro t als st M hk
  unfold KK_eats_78 at hk
  split at hk
  · rename_i ht
    subst ht
    split at hk
    · split at hk
      · rename_i hc
        obtain ⟨rfl, rfl, rfl, rfl, rfl, rfl⟩ := hc
        exact lK_eats_132 A C _ _ _ _ _ _ hk _ _ _ _ _
      · cases hk
    · cases hk
  cases hk
def KK_eats (j78 : Int32 → Int32 → Int32 → Int32 → Int32 → Mem → Option Mem) : Jm Mem := fun t als st M =>
  if t = 78 then (match als, st with
  | [.inr (.inr (.inl (al0, bl0, cl0))), .inl x1, .inl x2, .inl x3, .inl x4, _, _], [.inl y0] => if al0 = 40 ∧ bl0 = 0 ∧ cl0 = 0 then j78 x1 x2 x3 x4 y0 M else none
  | _, _ => none) else
  none
set_option maxRecDepth 1000000 in
theorem eK_eats (j78 : Int32 → Int32 → Int32 → Int32 → Int32 → Mem → Option Mem) (x1 : Int32) (M : Mem) : run (cK_eats) (KK_eats j78) rtV 400 (seek (cK_eats) 0) [aR (40, 0, 0), aI x1, aU, aU, aU, aU, aU] [] M = mK_eatsb j78 x1 M := id rfl
theorem lK_eats {E : EV} {l : Launch} {p : Program} {e : Env} {s : State} {m : MethodId} {args : Array Value} {below : List Frame} {meth : Method} {c : Code} (A : AllOK E l 3 "FreeLancesModel" prog_13_method_96_code 7 none outV (cK_eats)) (C : Cx E p s m args meth c "FreeLancesModel" prog_13_method_96_code 7 none) : ∀ (x1 : Int32) (M : Mem) (res : Mem), mK_eats x1 M = some res → Wm E p l e 3 s m args below meth c 7 0 [aR (40, 0, 0), aI x1, aU, aU, aU, aU, aU] [] M (outV res).1 (outV res).2 := by
  intro x1 M res h
  refine run_at C A rfl hrtV (n := 400) ((eK_eats mK_eats_78 x1 M).trans h) ?_
  intro t als st M hk
  unfold KK_eats at hk
  split at hk
  · rename_i ht
    subst ht
    split at hk
    · split at hk
      · rename_i hc
        obtain ⟨rfl, rfl, rfl⟩ := hc
        exact lK_eats_78 A C _ _ _ _ _ _ _ hk _ _
      · cases hk
    · cases hk
  cases hk
def dK_eats {β : Type} : Den β := fun as M k => match as with
  | [.inr (.inr (.inl (al0, bl0, cl0))), .inl x1] => if al0 = 40 ∧ bl0 = 0 ∧ cl0 = 0 then (mK_eats x1 M).bind fun q => k aU q else none
  | _ => none
theorem wK_eats {E : EV} (hsd : E.2.2.2 = 1) (l : Launch) (x1 : Int32) (M : Mem) (q : Mem) (hq : mK_eats x1 M = some q) : Con E l 3 yK_eats prog_13_method_96_code 7 none [aR (40, 0, 0), aI x1] M (outV q).1 (outV q).2 := by
  refine con_of iK_eats (Nat.le_of_ble_eq_true rfl) ?_
  intro p e s m args below meth c C
  exact lK_eats (oK_eats hsd l) C x1 M _ hq
theorem kK_eats {E : EV} (hsd : E.2.2.2 = 1) (l : Launch) {β : Type} : DenOK E l 3 yK_eats prog_13_method_96_code 7 none false (dK_eats (β := β)) := by
  intro as M k res h
  unfold dK_eats at h
  split at h
  ·
    split at h
    · rename_i hc
      obtain ⟨rfl, rfl, rfl⟩ := hc
      obtain ⟨q, hq, hk⟩ := Option.bind_eq_some_iff.mp h
      exact ⟨aU, q, hk, rfl, wK_eats hsd l _ M q hq⟩
    · cases h
  · cases h
theorem qK_eats {β : Type} : RecOK 40 (dK_eats (β := β)) := by
  intro as M k res h
  unfold dK_eats at h
  split at h
  ·
    split at h
    · rename_i hc
      obtain ⟨rfl, rfl, rfl⟩ := hc
      exact ⟨_, _, _, rfl⟩
    · cases h
  · cases h
/-! ===== FreeLancesModel.month(I)V ===== -/
abbrev yK_month : MethodName := ⟨"FreeLancesModel", "month", "(I)V"⟩
theorem iK_month : MI yK_month prog_13_method_98_code 9 none 1 := ⟨tw1714, tw108, ⟨by decide, by decide⟩, by decide +kernel, by decide, by decide⟩
def cK_month : List (Ent Mem) := [(false, 0, 1, sLdA 0),
  (false, 1, 1, sLdI 1),
  (false, 2, 1, sC 1),
  (false, 3, 3, sInv 3 true dK_bond),
  (false, 6, 1, sStI 2),
  (false, 7, 1, sLdA 0),
  (false, 8, 1, sLdI 1),
  (false, 9, 1, sC 5),
  (false, 10, 3, sInv 3 true dK_bond),
  (false, 13, 1, sStI 3),
  (false, 14, 1, sLdA 0),
  (false, 15, 1, sC 1),
  (false, 16, 1, sLdA 0),
  (false, 17, 3, sGet 40 (fun w i M => aR (41, 0, 0))),
  (false, 20, 2, sC 6),
  (false, 22, 1, sIald 41 1502),
  (false, 23, 3, sInv 3 true dK_inForce),
  (false, 26, 2, sStI 4),
  (false, 28, 1, sLdA 0),
  (false, 29, 1, sLdI 2),
  (false, 30, 2, sC 6),
  (false, 32, 3, sInv 3 true dK_own),
  (false, 35, 3, sIfGe 42),
  (false, 38, 1, sC 0),
  (false, 39, 3, sGoto 49),
  (false, 42, 1, sLdA 0),
  (false, 43, 1, sLdI 2),
  (false, 44, 2, sC 6),
  (false, 46, 3, sInv 3 true dK_own),
  (true, 49, 2, sStI 5),
  (false, 51, 2, sLdI 4),
  (false, 53, 3, sIfGe 68),
  (false, 56, 2, sLdI 5),
  (false, 58, 1, sLdA 0),
  (false, 59, 1, sLdI 1),
  (false, 60, 1, sC 4),
  (false, 61, 3, sInv 3 true dK_bond),
  (false, 64, 1, sBin (fun x y => x * y)),
  (false, 65, 3, sGoto 83),
  (false, 68, 1, sLdA 0),
  (false, 69, 2, sLdI 4),
  (false, 71, 2, sLdI 5),
  (false, 73, 1, sLdA 0),
  (false, 74, 1, sLdI 1),
  (false, 75, 1, sC 4),
  (false, 76, 3, sInv 3 true dK_bond),
  (false, 79, 1, sC 0),
  (false, 80, 3, sInv 5 true dK_comesTo),
  (false, 83, 2, sStI 6),
  (false, 85, 2, sLdI 6),
  (false, 87, 3, sIfGe 94),
  (false, 90, 1, sC 0),
  (false, 91, 3, sGoto 108),
  (false, 94, 2, sLdI 6),
  (false, 96, 2, sC 99999),
  (false, 98, 3, sCmpLe 106),
  (false, 101, 2, sC 99999),
  (false, 103, 3, sGoto 108),
  (false, 106, 2, sLdI 6),
  (true, 108, 2, sStI 6),
  (false, 110, 1, sLdA 0),
  (false, 111, 1, sLdI 1),
  (false, 112, 2, sC 8),
  (false, 114, 3, sInv 3 true dK_bond),
  (false, 117, 3, sIfNe 134),
  (false, 120, 1, sLdA 0),
  (false, 121, 1, sLdI 1),
  (false, 122, 2, sC 9),
  (false, 124, 1, sLdA 0),
  (false, 125, 3, sGet 40 (fun w i M => aR (41, 0, 0))),
  (false, 128, 2, sC 6),
  (false, 130, 1, sIald 41 1502),
  (false, 131, 3, sInv 4 false dK_writes),
  (false, 134, 1, sLdA 0),
  (false, 135, 1, sLdI 1),
  (false, 136, 2, sC 8),
  (false, 138, 1, sLdA 0),
  (false, 139, 1, sLdI 1),
  (false, 140, 2, sC 8),
  (false, 142, 3, sInv 3 true dK_bond),
  (false, 145, 2, sLdI 6),
  (false, 147, 1, sBin (fun x y => x + y)),
  (false, 148, 3, sInv 4 false dK_writes),
  (false, 151, 1, sLdA 0),
  (false, 152, 1, sLdI 1),
  (false, 153, 2, sC 10),
  (false, 155, 3, sInv 3 true dK_bond),
  (false, 158, 1, sLdA 0),
  (false, 159, 1, sLdI 1),
  (false, 160, 2, sC 8),
  (false, 162, 3, sInv 3 true dK_bond),
  (false, 165, 3, sCmpGe 178),
  (false, 168, 1, sLdA 0),
  (false, 169, 1, sLdI 1),
  (false, 170, 2, sC 10),
  (false, 172, 3, sInv 3 true dK_bond),
  (false, 175, 3, sGoto 185),
  (false, 178, 1, sLdA 0),
  (false, 179, 1, sLdI 1),
  (false, 180, 2, sC 8),
  (false, 182, 3, sInv 3 true dK_bond),
  (true, 185, 2, sStI 7),
  (false, 187, 1, sLdA 0),
  (false, 188, 1, sLdI 1),
  (false, 189, 2, sC 10),
  (false, 191, 1, sLdA 0),
  (false, 192, 1, sLdI 1),
  (false, 193, 2, sC 10),
  (false, 195, 3, sInv 3 true dK_bond),
  (false, 198, 2, sLdI 7),
  (false, 200, 1, sBin (fun x y => x - y)),
  (false, 201, 3, sInv 4 false dK_writes),
  (false, 204, 1, sLdA 0),
  (false, 205, 1, sLdI 1),
  (false, 206, 2, sLdI 7),
  (false, 208, 3, sInv 3 false dK_owes),
  (false, 211, 1, sLdA 0),
  (false, 212, 1, sLdI 3),
  (false, 213, 1, sC 0),
  (false, 214, 3, sInv 3 true dK_ofTown),
  (false, 217, 1, sLdA 0),
  (false, 218, 1, sLdI 1),
  (false, 219, 2, sC 8),
  (false, 221, 3, sInv 3 true dK_bond),
  (false, 224, 3, sCmpGe 236),
  (false, 227, 1, sLdA 0),
  (false, 228, 1, sLdI 3),
  (false, 229, 1, sC 0),
  (false, 230, 3, sInv 3 true dK_ofTown),
  (false, 233, 3, sGoto 243),
  (false, 236, 1, sLdA 0),
  (false, 237, 1, sLdI 1),
  (false, 238, 2, sC 8),
  (false, 240, 3, sInv 3 true dK_bond),
  (false, 243, 2, sStI 8),
  (false, 245, 1, sLdA 0),
  (false, 246, 1, sLdI 3),
  (false, 247, 1, sLdI 2),
  (false, 248, 2, sLdI 8),
  (false, 250, 3, sInv 4 false dK_gives),
  (false, 253, 1, sLdA 0),
  (false, 254, 1, sLdI 1),
  (false, 255, 2, sLdI 8),
  (false, 257, 3, sInv 3 false dK_owes),
  (false, 260, 1, sRetV)]
theorem oK_month {E : EV} (hsd : E.2.2.2 = 1) (l : Launch) : AllOK E l 3 "FreeLancesModel" prog_13_method_98_code 9 none outV (cK_month) := by
  refine ak (ok_aload_n (k := 0) rfl (by decide +kernel)) ?_
  refine ak (ok_iload_n (k := 1) rfl (by decide +kernel)) ?_
  refine ak (ok_iconst (n := 1) (by decide) (by decide +kernel)) ?_
  refine ak (ok_invV (r := 40) (kK_bond hsd l) qK_bond ck11 kd40 iK_bond tw1420 tw49 (by decide) tw1418 (by decide +kernel)) ?_
  refine ak (ok_istore_n (k := 2) rfl (by decide) (by decide +kernel)) ?_
  refine ak (ok_aload_n (k := 0) rfl (by decide +kernel)) ?_
  refine ak (ok_iload_n (k := 1) rfl (by decide +kernel)) ?_
  refine ak (ok_iconst (n := 5) (by decide) (by decide +kernel)) ?_
  refine ak (ok_invV (r := 40) (kK_bond hsd l) qK_bond ck11 kd40 iK_bond tw1420 tw49 (by decide) tw1418 (by decide +kernel)) ?_
  refine ak (ok_istore_n (k := 3) rfl (by decide) (by decide +kernel)) ?_
  refine ak (ok_aload_n (k := 0) rfl (by decide +kernel)) ?_
  refine ak (ok_iconst (n := 1) (by decide) (by decide +kernel)) ?_
  refine ak (ok_aload_n (k := 0) rfl (by decide +kernel)) ?_
  refine ak (ok_get (k := 0) ck11 kd40 (by decide) (fun _ _ _ => rfl) (vf_40_0 hsd) tw1242 (by decide +kernel)) ?_
  refine ak (ok_bipush (n := 6) (by decide) (by decide +kernel)) ?_
  refine ak (ok_iald kd41 (by decide) (by decide +kernel)) ?_
  refine ak (ok_invV (r := 40) (kK_inForce hsd l) qK_inForce ck11 kd40 iK_inForce tw1448 tw53 (by decide) tw1446 (by decide +kernel)) ?_
  refine ak (ok_istore (by decide) (by decide +kernel)) ?_
  refine ak (ok_aload_n (k := 0) rfl (by decide +kernel)) ?_
  refine ak (ok_iload_n (k := 2) rfl (by decide +kernel)) ?_
  refine ak (ok_bipush (n := 6) (by decide) (by decide +kernel)) ?_
  refine ak (ok_invV (r := 40) (kK_own hsd l) qK_own ck11 kd40 iK_own tw1363 tw41 (by decide) tw1361 (by decide +kernel)) ?_
  refine ak (ok_if_ge (off := 7) (by decide) (by decide +kernel)) ?_
  refine ak (ok_iconst (n := 0) (by decide) (by decide +kernel)) ?_
  refine ak (ok_goto (off := 10) (by decide) (by decide +kernel)) ?_
  refine ak (ok_aload_n (k := 0) rfl (by decide +kernel)) ?_
  refine ak (ok_iload_n (k := 2) rfl (by decide +kernel)) ?_
  refine ak (ok_bipush (n := 6) (by decide) (by decide +kernel)) ?_
  refine ak (ok_invV (r := 40) (kK_own hsd l) qK_own ck11 kd40 iK_own tw1363 tw41 (by decide) tw1361 (by decide +kernel)) ?_
  refine ak (ok_istore (by decide) (by decide +kernel)) ?_
  refine ak (ok_iload (by decide +kernel)) ?_
  refine ak (ok_if_ge (off := 15) (by decide) (by decide +kernel)) ?_
  refine ak (ok_iload (by decide +kernel)) ?_
  refine ak (ok_aload_n (k := 0) rfl (by decide +kernel)) ?_
  refine ak (ok_iload_n (k := 1) rfl (by decide +kernel)) ?_
  refine ak (ok_iconst (n := 4) (by decide) (by decide +kernel)) ?_
  refine ak (ok_invV (r := 40) (kK_bond hsd l) qK_bond ck11 kd40 iK_bond tw1420 tw49 (by decide) tw1418 (by decide +kernel)) ?_
  refine ak (ok_imul (by decide +kernel)) ?_
  refine ak (ok_goto (off := 18) (by decide) (by decide +kernel)) ?_
  refine ak (ok_aload_n (k := 0) rfl (by decide +kernel)) ?_
  refine ak (ok_iload (by decide +kernel)) ?_
  refine ak (ok_iload (by decide +kernel)) ?_
  refine ak (ok_aload_n (k := 0) rfl (by decide +kernel)) ?_
  refine ak (ok_iload_n (k := 1) rfl (by decide +kernel)) ?_
  refine ak (ok_iconst (n := 4) (by decide) (by decide +kernel)) ?_
  refine ak (ok_invV (r := 40) (kK_bond hsd l) qK_bond ck11 kd40 iK_bond tw1420 tw49 (by decide) tw1418 (by decide +kernel)) ?_
  refine ak (ok_iconst (n := 0) (by decide) (by decide +kernel)) ?_
  refine ak (ok_invV (r := 40) (kK_comesTo hsd l) qK_comesTo ck11 kd40 iK_comesTo tw1452 tw54 (by decide) tw1450 (by decide +kernel)) ?_
  refine ak (ok_istore (by decide) (by decide +kernel)) ?_
  refine ak (ok_iload (by decide +kernel)) ?_
  refine ak (ok_if_ge (off := 7) (by decide) (by decide +kernel)) ?_
  refine ak (ok_iconst (n := 0) (by decide) (by decide +kernel)) ?_
  refine ak (ok_goto (off := 17) (by decide) (by decide +kernel)) ?_
  refine ak (ok_iload (by decide +kernel)) ?_
  refine ak (ok_ldc tw1328 (by decide +kernel)) ?_
  refine ak (ok_icmp_le (off := 8) (by decide) (by decide +kernel)) ?_
  refine ak (ok_ldc tw1328 (by decide +kernel)) ?_
  refine ak (ok_goto (off := 5) (by decide) (by decide +kernel)) ?_
  refine ak (ok_iload (by decide +kernel)) ?_
  refine ak (ok_istore (by decide) (by decide +kernel)) ?_
  refine ak (ok_aload_n (k := 0) rfl (by decide +kernel)) ?_
  refine ak (ok_iload_n (k := 1) rfl (by decide +kernel)) ?_
  refine ak (ok_bipush (n := 8) (by decide) (by decide +kernel)) ?_
  refine ak (ok_invV (r := 40) (kK_bond hsd l) qK_bond ck11 kd40 iK_bond tw1420 tw49 (by decide) tw1418 (by decide +kernel)) ?_
  refine ak (ok_if_ne (off := 17) (by decide) (by decide +kernel)) ?_
  refine ak (ok_aload_n (k := 0) rfl (by decide +kernel)) ?_
  refine ak (ok_iload_n (k := 1) rfl (by decide +kernel)) ?_
  refine ak (ok_bipush (n := 9) (by decide) (by decide +kernel)) ?_
  refine ak (ok_aload_n (k := 0) rfl (by decide +kernel)) ?_
  refine ak (ok_get (k := 0) ck11 kd40 (by decide) (fun _ _ _ => rfl) (vf_40_0 hsd) tw1242 (by decide +kernel)) ?_
  refine ak (ok_bipush (n := 6) (by decide) (by decide +kernel)) ?_
  refine ak (ok_iald kd41 (by decide) (by decide +kernel)) ?_
  refine ak (ok_invV (r := 40) (kK_writes hsd l) qK_writes ck11 kd40 iK_writes tw1543 tw66 (by decide) tw1541 (by decide +kernel)) ?_
  refine ak (ok_aload_n (k := 0) rfl (by decide +kernel)) ?_
  refine ak (ok_iload_n (k := 1) rfl (by decide +kernel)) ?_
  refine ak (ok_bipush (n := 8) (by decide) (by decide +kernel)) ?_
  refine ak (ok_aload_n (k := 0) rfl (by decide +kernel)) ?_
  refine ak (ok_iload_n (k := 1) rfl (by decide +kernel)) ?_
  refine ak (ok_bipush (n := 8) (by decide) (by decide +kernel)) ?_
  refine ak (ok_invV (r := 40) (kK_bond hsd l) qK_bond ck11 kd40 iK_bond tw1420 tw49 (by decide) tw1418 (by decide +kernel)) ?_
  refine ak (ok_iload (by decide +kernel)) ?_
  refine ak (ok_iadd (by decide +kernel)) ?_
  refine ak (ok_invV (r := 40) (kK_writes hsd l) qK_writes ck11 kd40 iK_writes tw1543 tw66 (by decide) tw1541 (by decide +kernel)) ?_
  refine ak (ok_aload_n (k := 0) rfl (by decide +kernel)) ?_
  refine ak (ok_iload_n (k := 1) rfl (by decide +kernel)) ?_
  refine ak (ok_bipush (n := 10) (by decide) (by decide +kernel)) ?_
  refine ak (ok_invV (r := 40) (kK_bond hsd l) qK_bond ck11 kd40 iK_bond tw1420 tw49 (by decide) tw1418 (by decide +kernel)) ?_
  refine ak (ok_aload_n (k := 0) rfl (by decide +kernel)) ?_
  refine ak (ok_iload_n (k := 1) rfl (by decide +kernel)) ?_
  refine ak (ok_bipush (n := 8) (by decide) (by decide +kernel)) ?_
  refine ak (ok_invV (r := 40) (kK_bond hsd l) qK_bond ck11 kd40 iK_bond tw1420 tw49 (by decide) tw1418 (by decide +kernel)) ?_
  refine ak (ok_icmp_ge (off := 13) (by decide) (by decide +kernel)) ?_
  refine ak (ok_aload_n (k := 0) rfl (by decide +kernel)) ?_
  refine ak (ok_iload_n (k := 1) rfl (by decide +kernel)) ?_
  refine ak (ok_bipush (n := 10) (by decide) (by decide +kernel)) ?_
  refine ak (ok_invV (r := 40) (kK_bond hsd l) qK_bond ck11 kd40 iK_bond tw1420 tw49 (by decide) tw1418 (by decide +kernel)) ?_
  refine ak (ok_goto (off := 10) (by decide) (by decide +kernel)) ?_
  refine ak (ok_aload_n (k := 0) rfl (by decide +kernel)) ?_
  refine ak (ok_iload_n (k := 1) rfl (by decide +kernel)) ?_
  refine ak (ok_bipush (n := 8) (by decide) (by decide +kernel)) ?_
  refine ak (ok_invV (r := 40) (kK_bond hsd l) qK_bond ck11 kd40 iK_bond tw1420 tw49 (by decide) tw1418 (by decide +kernel)) ?_
  refine ak (ok_istore (by decide) (by decide +kernel)) ?_
  refine ak (ok_aload_n (k := 0) rfl (by decide +kernel)) ?_
  refine ak (ok_iload_n (k := 1) rfl (by decide +kernel)) ?_
  refine ak (ok_bipush (n := 10) (by decide) (by decide +kernel)) ?_
  refine ak (ok_aload_n (k := 0) rfl (by decide +kernel)) ?_
  refine ak (ok_iload_n (k := 1) rfl (by decide +kernel)) ?_
  refine ak (ok_bipush (n := 10) (by decide) (by decide +kernel)) ?_
  refine ak (ok_invV (r := 40) (kK_bond hsd l) qK_bond ck11 kd40 iK_bond tw1420 tw49 (by decide) tw1418 (by decide +kernel)) ?_
  refine ak (ok_iload (by decide +kernel)) ?_
  refine ak (ok_isub (by decide +kernel)) ?_
  refine ak (ok_invV (r := 40) (kK_writes hsd l) qK_writes ck11 kd40 iK_writes tw1543 tw66 (by decide) tw1541 (by decide +kernel)) ?_
  refine ak (ok_aload_n (k := 0) rfl (by decide +kernel)) ?_
  refine ak (ok_iload_n (k := 1) rfl (by decide +kernel)) ?_
  refine ak (ok_iload (by decide +kernel)) ?_
  refine ak (ok_invV (r := 40) (kK_owes hsd l) qK_owes ck11 kd40 iK_owes tw1587 tw69 (by decide) tw1585 (by decide +kernel)) ?_
  refine ak (ok_aload_n (k := 0) rfl (by decide +kernel)) ?_
  refine ak (ok_iload_n (k := 3) rfl (by decide +kernel)) ?_
  refine ak (ok_iconst (n := 0) (by decide) (by decide +kernel)) ?_
  refine ak (ok_invV (r := 40) (kK_ofTown hsd l) qK_ofTown ck11 kd40 iK_ofTown tw1359 tw40 (by decide) tw1357 (by decide +kernel)) ?_
  refine ak (ok_aload_n (k := 0) rfl (by decide +kernel)) ?_
  refine ak (ok_iload_n (k := 1) rfl (by decide +kernel)) ?_
  refine ak (ok_bipush (n := 8) (by decide) (by decide +kernel)) ?_
  refine ak (ok_invV (r := 40) (kK_bond hsd l) qK_bond ck11 kd40 iK_bond tw1420 tw49 (by decide) tw1418 (by decide +kernel)) ?_
  refine ak (ok_icmp_ge (off := 12) (by decide) (by decide +kernel)) ?_
  refine ak (ok_aload_n (k := 0) rfl (by decide +kernel)) ?_
  refine ak (ok_iload_n (k := 3) rfl (by decide +kernel)) ?_
  refine ak (ok_iconst (n := 0) (by decide) (by decide +kernel)) ?_
  refine ak (ok_invV (r := 40) (kK_ofTown hsd l) qK_ofTown ck11 kd40 iK_ofTown tw1359 tw40 (by decide) tw1357 (by decide +kernel)) ?_
  refine ak (ok_goto (off := 10) (by decide) (by decide +kernel)) ?_
  refine ak (ok_aload_n (k := 0) rfl (by decide +kernel)) ?_
  refine ak (ok_iload_n (k := 1) rfl (by decide +kernel)) ?_
  refine ak (ok_bipush (n := 8) (by decide) (by decide +kernel)) ?_
  refine ak (ok_invV (r := 40) (kK_bond hsd l) qK_bond ck11 kd40 iK_bond tw1420 tw49 (by decide) tw1418 (by decide +kernel)) ?_
  refine ak (ok_istore (by decide) (by decide +kernel)) ?_
  refine ak (ok_aload_n (k := 0) rfl (by decide +kernel)) ?_
  refine ak (ok_iload_n (k := 3) rfl (by decide +kernel)) ?_
  refine ak (ok_iload_n (k := 2) rfl (by decide +kernel)) ?_
  refine ak (ok_iload (by decide +kernel)) ?_
  refine ak (ok_invV (r := 40) (kK_gives hsd l) qK_gives ck11 kd40 iK_gives tw1559 tw68 (by decide) tw1557 (by decide +kernel)) ?_
  refine ak (ok_aload_n (k := 0) rfl (by decide +kernel)) ?_
  refine ak (ok_iload_n (k := 1) rfl (by decide +kernel)) ?_
  refine ak (ok_iload (by decide +kernel)) ?_
  refine ak (ok_invV (r := 40) (kK_owes hsd l) qK_owes ck11 kd40 iK_owes tw1587 tw69 (by decide) tw1585 (by decide +kernel)) ?_
  refine ak (ok_return rfl (by decide +kernel)) ?_
  exact trivial
set_option maxRecDepth 1000000 in
theorem eK_month_185 (x1 : Int32) (x2 : Int32) (x3 : Int32) (y0 : Int32) (M : Mem) (u4 u5 u6 u7 u8 : AV) : run (cK_month) (fun _ _ _ _ => none) rtV 400 (seek (cK_month) 185) [aR (40, 0, 0), aI x1, aI x2, aI x3, u4, u5, u6, u7, u8] [aI y0] M = mK_month_185b x1 x2 x3 y0 M := id rfl
theorem lK_month_185 {E : EV} {l : Launch} {p : Program} {e : Env} {s : State} {m : MethodId} {args : Array Value} {below : List Frame} {meth : Method} {c : Code} (A : AllOK E l 3 "FreeLancesModel" prog_13_method_98_code 9 none outV (cK_month)) (C : Cx E p s m args meth c "FreeLancesModel" prog_13_method_98_code 9 none) : ∀ (x1 : Int32) (x2 : Int32) (x3 : Int32) (y0 : Int32) (M : Mem) (res : Mem), mK_month_185 x1 x2 x3 y0 M = some res → ∀ (u4 u5 u6 u7 u8 : AV), Wm E p l e 3 s m args below meth c 9 185 [aR (40, 0, 0), aI x1, aI x2, aI x3, u4, u5, u6, u7, u8] [aI y0] M (outV res).1 (outV res).2 := by
  intro x1 x2 x3 y0 M res h u4 u5 u6 u7 u8
  refine run_at C A rfl hrtV (n := 400) ((eK_month_185 x1 x2 x3 y0 M u4 u5 u6 u7 u8).trans h) ?_
  intro t als st M hk; cases hk
def KK_month_108 (j185 : Int32 → Int32 → Int32 → Int32 → Mem → Option Mem) : Jm Mem := fun t als st M =>
  if t = 185 then (match als, st with
  | [.inr (.inr (.inl (al0, bl0, cl0))), .inl x1, .inl x2, .inl x3, _, _, _, _, _], [.inl y0] => if al0 = 40 ∧ bl0 = 0 ∧ cl0 = 0 then j185 x1 x2 x3 y0 M else none
  | _, _ => none) else
  none
set_option maxRecDepth 1000000 in
theorem eK_month_108 (j185 : Int32 → Int32 → Int32 → Int32 → Mem → Option Mem) (x1 : Int32) (x2 : Int32) (x3 : Int32) (y0 : Int32) (M : Mem) (u4 u5 u6 u7 u8 : AV) : run (cK_month) (KK_month_108 j185) rtV 400 (seek (cK_month) 108) [aR (40, 0, 0), aI x1, aI x2, aI x3, u4, u5, u6, u7, u8] [aI y0] M = mK_month_108b j185 x1 x2 x3 y0 M := id rfl
theorem lK_month_108 {E : EV} {l : Launch} {p : Program} {e : Env} {s : State} {m : MethodId} {args : Array Value} {below : List Frame} {meth : Method} {c : Code} (A : AllOK E l 3 "FreeLancesModel" prog_13_method_98_code 9 none outV (cK_month)) (C : Cx E p s m args meth c "FreeLancesModel" prog_13_method_98_code 9 none) : ∀ (x1 : Int32) (x2 : Int32) (x3 : Int32) (y0 : Int32) (M : Mem) (res : Mem), mK_month_108 x1 x2 x3 y0 M = some res → ∀ (u4 u5 u6 u7 u8 : AV), Wm E p l e 3 s m args below meth c 9 108 [aR (40, 0, 0), aI x1, aI x2, aI x3, u4, u5, u6, u7, u8] [aI y0] M (outV res).1 (outV res).2 := by
  intro x1 x2 x3 y0 M res h u4 u5 u6 u7 u8
  refine run_at C A rfl hrtV (n := 400) ((eK_month_108 mK_month_185 x1 x2 x3 y0 M u4 u5 u6 u7 u8).trans h) ?_
  intro t als st M hk
  unfold KK_month_108 at hk
  split at hk
  · rename_i ht
    subst ht
    split at hk
    · split at hk
      · rename_i hc
        obtain ⟨rfl, rfl, rfl⟩ := hc
        exact lK_month_185 A C _ _ _ _ _ _ hk _ _ _ _ _
      · cases hk
    · cases hk
  cases hk
def KK_month_49 (j108 : Int32 → Int32 → Int32 → Int32 → Mem → Option Mem) : Jm Mem := fun t als st M =>
  if t = 108 then (match als, st with
  | [.inr (.inr (.inl (al0, bl0, cl0))), .inl x1, .inl x2, .inl x3, _, _, _, _, _], [.inl y0] => if al0 = 40 ∧ bl0 = 0 ∧ cl0 = 0 then j108 x1 x2 x3 y0 M else none
  | _, _ => none) else
  none
set_option maxRecDepth 1000000 in
theorem eK_month_49 (j108 : Int32 → Int32 → Int32 → Int32 → Mem → Option Mem) (x1 : Int32) (x2 : Int32) (x3 : Int32) (x4 : Int32) (y0 : Int32) (M : Mem) (u5 u6 u7 u8 : AV) : run (cK_month) (KK_month_49 j108) rtV 400 (seek (cK_month) 49) [aR (40, 0, 0), aI x1, aI x2, aI x3, aI x4, u5, u6, u7, u8] [aI y0] M = mK_month_49b j108 x1 x2 x3 x4 y0 M := id rfl
theorem lK_month_49 {E : EV} {l : Launch} {p : Program} {e : Env} {s : State} {m : MethodId} {args : Array Value} {below : List Frame} {meth : Method} {c : Code} (A : AllOK E l 3 "FreeLancesModel" prog_13_method_98_code 9 none outV (cK_month)) (C : Cx E p s m args meth c "FreeLancesModel" prog_13_method_98_code 9 none) : ∀ (x1 : Int32) (x2 : Int32) (x3 : Int32) (x4 : Int32) (y0 : Int32) (M : Mem) (res : Mem), mK_month_49 x1 x2 x3 x4 y0 M = some res → ∀ (u5 u6 u7 u8 : AV), Wm E p l e 3 s m args below meth c 9 49 [aR (40, 0, 0), aI x1, aI x2, aI x3, aI x4, u5, u6, u7, u8] [aI y0] M (outV res).1 (outV res).2 := by
  intro x1 x2 x3 x4 y0 M res h u5 u6 u7 u8
  refine run_at C A rfl hrtV (n := 400) ((eK_month_49 mK_month_108 x1 x2 x3 x4 y0 M u5 u6 u7 u8).trans h) ?_
  intro t als st M hk
  unfold KK_month_49 at hk
  split at hk
  · rename_i ht
    subst ht
    split at hk
    · split at hk
      · rename_i hc
        obtain ⟨rfl, rfl, rfl⟩ := hc
        exact lK_month_108 A C _ _ _ _ _ _ hk _ _ _ _ _
      · cases hk
    · cases hk
  cases hk
def KK_month (j49 : Int32 → Int32 → Int32 → Int32 → Int32 → Mem → Option Mem) : Jm Mem := fun t als st M =>
  if t = 49 then (match als, st with
  | [.inr (.inr (.inl (al0, bl0, cl0))), .inl x1, .inl x2, .inl x3, .inl x4, _, _, _, _], [.inl y0] => if al0 = 40 ∧ bl0 = 0 ∧ cl0 = 0 then j49 x1 x2 x3 x4 y0 M else none
  | _, _ => none) else
  none
set_option maxRecDepth 1000000 in
theorem eK_month (j49 : Int32 → Int32 → Int32 → Int32 → Int32 → Mem → Option Mem) (x1 : Int32) (M : Mem) : run (cK_month) (KK_month j49) rtV 400 (seek (cK_month) 0) [aR (40, 0, 0), aI x1, aU, aU, aU, aU, aU, aU, aU] [] M = mK_monthb j49 x1 M := id rfl
theorem lK_month {E : EV} {l : Launch} {p : Program} {e : Env} {s : State} {m : MethodId} {args : Array Value} {below : List Frame} {meth : Method} {c : Code} (A : AllOK E l 3 "FreeLancesModel" prog_13_method_98_code 9 none outV (cK_month)) (C : Cx E p s m args meth c "FreeLancesModel" prog_13_method_98_code 9 none) : ∀ (x1 : Int32) (M : Mem) (res : Mem), mK_month x1 M = some res → Wm E p l e 3 s m args below meth c 9 0 [aR (40, 0, 0), aI x1, aU, aU, aU, aU, aU, aU, aU] [] M (outV res).1 (outV res).2 := by
  intro x1 M res h
  refine run_at C A rfl hrtV (n := 400) ((eK_month mK_month_49 x1 M).trans h) ?_
  intro t als st M hk
  unfold KK_month at hk
  split at hk
  · rename_i ht
    subst ht
    split at hk
    · split at hk
      · rename_i hc
        obtain ⟨rfl, rfl, rfl⟩ := hc
        exact lK_month_49 A C _ _ _ _ _ _ _ hk _ _ _ _
      · cases hk
    · cases hk
  cases hk
def dK_month {β : Type} : Den β := fun as M k => match as with
  | [.inr (.inr (.inl (al0, bl0, cl0))), .inl x1] => if al0 = 40 ∧ bl0 = 0 ∧ cl0 = 0 then (mK_month x1 M).bind fun q => k aU q else none
  | _ => none
theorem wK_month {E : EV} (hsd : E.2.2.2 = 1) (l : Launch) (x1 : Int32) (M : Mem) (q : Mem) (hq : mK_month x1 M = some q) : Con E l 3 yK_month prog_13_method_98_code 9 none [aR (40, 0, 0), aI x1] M (outV q).1 (outV q).2 := by
  refine con_of iK_month (Nat.le_of_ble_eq_true rfl) ?_
  intro p e s m args below meth c C
  exact lK_month (oK_month hsd l) C x1 M _ hq
theorem kK_month {E : EV} (hsd : E.2.2.2 = 1) (l : Launch) {β : Type} : DenOK E l 3 yK_month prog_13_method_98_code 9 none false (dK_month (β := β)) := by
  intro as M k res h
  unfold dK_month at h
  split at h
  ·
    split at h
    · rename_i hc
      obtain ⟨rfl, rfl, rfl⟩ := hc
      obtain ⟨q, hq, hk⟩ := Option.bind_eq_some_iff.mp h
      exact ⟨aU, q, hk, rfl, wK_month hsd l _ M q hq⟩
    · cases h
  · cases h
theorem qK_month {β : Type} : RecOK 40 (dK_month (β := β)) := by
  intro as M k res h
  unfold dK_month at h
  split at h
  ·
    split at h
    · rename_i hc
      obtain ⟨rfl, rfl, rfl⟩ := hc
      exact ⟨_, _, _, rfl⟩
    · cases h
  · cases h
