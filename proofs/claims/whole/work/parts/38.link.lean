/-! ===== FreeLancesModel.isOfThrees(II)Z ===== -/
abbrev yK_isOfThrees : MethodName := ⟨"FreeLancesModel", "isOfThrees", "(II)Z"⟩
theorem iK_isOfThrees : MI yK_isOfThrees prog_13_method_86_code 5 (some .boolean) 2 := ⟨tw1662, tw108, ⟨by decide, by decide⟩, by decide +kernel, by decide, by decide⟩
def cK_isOfThrees : List (Ent (Int32 × Mem)) := [(false, 0, 1, sLdA 0),
  (false, 1, 3, sGet 40 (fun w i M => aR (65, 0, 0))),
  (false, 4, 1, sLdI 1),
  (false, 5, 1, sIald 65 4),
  (false, 6, 1, sC 3),
  (false, 7, 1, sBin0 (fun x y => x - x / y * y)),
  (false, 8, 3, sIfNe 31),
  (false, 11, 1, sLdA 0),
  (false, 12, 3, sGet 40 (fun w i M => aR (65, 0, 0))),
  (false, 15, 1, sLdI 1),
  (false, 16, 1, sIald 65 4),
  (false, 17, 1, sC 3),
  (false, 18, 1, sBin0 (fun x y => x / y)),
  (false, 19, 1, sC 1),
  (false, 20, 1, sLdI 2),
  (false, 21, 3, sInv 3 true dK_in),
  (false, 24, 3, sIfEq 31),
  (false, 27, 1, sC 1),
  (false, 28, 3, sGoto 32),
  (false, 31, 1, sC 0),
  (false, 32, 1, sStI 3),
  (false, 33, 1, sC 0),
  (false, 34, 2, sStI 4),
  (true, 36, 2, sLdI 4),
  (false, 38, 1, sLdA 0),
  (false, 39, 3, sGet 40 (fun w i M => aR (65, 0, 0))),
  (false, 42, 1, sLdI 1),
  (false, 43, 1, sIald 65 4),
  (false, 44, 3, sCmpGe 85),
  (false, 47, 1, sLdI 3),
  (false, 48, 3, sIfEq 77),
  (false, 51, 1, sLdA 0),
  (false, 52, 3, sGet 40 (fun w i M => aR (66, 0, 0))),
  (false, 55, 2, sC 24),
  (false, 57, 1, sLdI 1),
  (false, 58, 1, sBin (fun x y => x * y)),
  (false, 59, 2, sLdI 4),
  (false, 61, 1, sBin (fun x y => x + y)),
  (false, 62, 1, sIald 66 96),
  (false, 63, 1, sC 0),
  (false, 64, 3, sC 9999),
  (false, 67, 3, sInv 3 true dK_in),
  (false, 70, 3, sIfEq 77),
  (false, 73, 1, sC 1),
  (false, 74, 3, sGoto 78),
  (false, 77, 1, sC 0),
  (false, 78, 1, sStI 3),
  (false, 79, 3, sInc 4 1),
  (false, 82, 3, sGoto 36),
  (false, 85, 1, sLdI 3),
  (false, 86, 1, sRetZ)]
theorem oK_isOfThrees {E : EV} (hsd : E.2.2.2 = 1) (l : Launch) : AllOK E l 2 "FreeLancesModel" prog_13_method_86_code 5 (some .boolean) outI (cK_isOfThrees) := by
  refine ak (ok_aload_n (k := 0) rfl (by decide +kernel)) ?_
  refine ak (ok_get (k := 24) ck11 kd40 (by decide) (fun _ _ _ => rfl) (vf_40_24 hsd) tw1266 (by decide +kernel)) ?_
  refine ak (ok_iload_n (k := 1) rfl (by decide +kernel)) ?_
  refine ak (ok_iald kd65 (by decide) (by decide +kernel)) ?_
  refine ak (ok_iconst (n := 3) (by decide) (by decide +kernel)) ?_
  refine ak (ok_irem (by decide +kernel)) ?_
  refine ak (ok_if_ne (off := 23) (by decide) (by decide +kernel)) ?_
  refine ak (ok_aload_n (k := 0) rfl (by decide +kernel)) ?_
  refine ak (ok_get (k := 24) ck11 kd40 (by decide) (fun _ _ _ => rfl) (vf_40_24 hsd) tw1266 (by decide +kernel)) ?_
  refine ak (ok_iload_n (k := 1) rfl (by decide +kernel)) ?_
  refine ak (ok_iald kd65 (by decide) (by decide +kernel)) ?_
  refine ak (ok_iconst (n := 3) (by decide) (by decide +kernel)) ?_
  refine ak (ok_idiv (by decide +kernel)) ?_
  refine ak (ok_iconst (n := 1) (by decide) (by decide +kernel)) ?_
  refine ak (ok_iload_n (k := 2) rfl (by decide +kernel)) ?_
  refine ak (ok_invS (kK_in hsd l) iK_in tw1330 (by decide) tw1329 (by decide +kernel)) ?_
  refine ak (ok_if_eq (off := 7) (by decide) (by decide +kernel)) ?_
  refine ak (ok_iconst (n := 1) (by decide) (by decide +kernel)) ?_
  refine ak (ok_goto (off := 4) (by decide) (by decide +kernel)) ?_
  refine ak (ok_iconst (n := 0) (by decide) (by decide +kernel)) ?_
  refine ak (ok_istore_n (k := 3) rfl (by decide) (by decide +kernel)) ?_
  refine ak (ok_iconst (n := 0) (by decide) (by decide +kernel)) ?_
  refine ak (ok_istore (by decide) (by decide +kernel)) ?_
  refine ak (ok_iload (by decide +kernel)) ?_
  refine ak (ok_aload_n (k := 0) rfl (by decide +kernel)) ?_
  refine ak (ok_get (k := 24) ck11 kd40 (by decide) (fun _ _ _ => rfl) (vf_40_24 hsd) tw1266 (by decide +kernel)) ?_
  refine ak (ok_iload_n (k := 1) rfl (by decide +kernel)) ?_
  refine ak (ok_iald kd65 (by decide) (by decide +kernel)) ?_
  refine ak (ok_icmp_ge (off := 41) (by decide) (by decide +kernel)) ?_
  refine ak (ok_iload_n (k := 3) rfl (by decide +kernel)) ?_
  refine ak (ok_if_eq (off := 29) (by decide) (by decide +kernel)) ?_
  refine ak (ok_aload_n (k := 0) rfl (by decide +kernel)) ?_
  refine ak (ok_get (k := 25) ck11 kd40 (by decide) (fun _ _ _ => rfl) (vf_40_25 hsd) tw1267 (by decide +kernel)) ?_
  refine ak (ok_bipush (n := 24) (by decide) (by decide +kernel)) ?_
  refine ak (ok_iload_n (k := 1) rfl (by decide +kernel)) ?_
  refine ak (ok_imul (by decide +kernel)) ?_
  refine ak (ok_iload (by decide +kernel)) ?_
  refine ak (ok_iadd (by decide +kernel)) ?_
  refine ak (ok_iald kd66 (by decide) (by decide +kernel)) ?_
  refine ak (ok_iconst (n := 0) (by decide) (by decide +kernel)) ?_
  refine ak (ok_sipush (n := 9999) (by decide) (by decide +kernel)) ?_
  refine ak (ok_invS (kK_in hsd l) iK_in tw1330 (by decide) tw1329 (by decide +kernel)) ?_
  refine ak (ok_if_eq (off := 7) (by decide) (by decide +kernel)) ?_
  refine ak (ok_iconst (n := 1) (by decide) (by decide +kernel)) ?_
  refine ak (ok_goto (off := 4) (by decide) (by decide +kernel)) ?_
  refine ak (ok_iconst (n := 0) (by decide) (by decide +kernel)) ?_
  refine ak (ok_istore_n (k := 3) rfl (by decide) (by decide +kernel)) ?_
  refine ak (ok_iinc (n := 1) (by decide) (by decide) (by decide +kernel)) ?_
  refine ak (ok_goto (off := (-46)) (by decide) (by decide +kernel)) ?_
  refine ak (ok_iload_n (k := 3) rfl (by decide +kernel)) ?_
  refine ak (ok_zreturn rfl (by decide +kernel)) ?_
  exact trivial
def KK_isOfThrees_36 (j36 : Int32 → Int32 → Int32 → Mem → Option (Int32 × Mem)) : Jm (Int32 × Mem) := fun t als st M =>
  if t = 36 then (match als, st with
  | [.inr (.inr (.inl (al0, bl0, cl0))), .inl x1, _, .inl x3, .inl x4], [] => if al0 = 40 ∧ bl0 = 0 ∧ cl0 = 0 then j36 x1 x3 x4 M else none
  | _, _ => none) else
  none
set_option maxRecDepth 1000000 in
theorem eK_isOfThrees_36 (j36 : Int32 → Int32 → Int32 → Mem → Option (Int32 × Mem)) (x1 : Int32) (x3 : Int32) (x4 : Int32) (M : Mem) (u2 : AV) : run (cK_isOfThrees) (KK_isOfThrees_36 j36) rtI 400 (seek (cK_isOfThrees) 36) [aR (40, 0, 0), aI x1, u2, aI x3, aI x4] [] M = mK_isOfThrees_36b j36 x1 x3 x4 M := id rfl
theorem lK_isOfThrees_36 {E : EV} {l : Launch} {p : Program} {e : Env} {s : State} {m : MethodId} {args : Array Value} {below : List Frame} {meth : Method} {c : Code} (A : AllOK E l 2 "FreeLancesModel" prog_13_method_86_code 5 (some .boolean) outI (cK_isOfThrees)) (C : Cx E p s m args meth c "FreeLancesModel" prog_13_method_86_code 5 (some .boolean)) : ∀ (n : Nat), ∀ (x1 : Int32) (x3 : Int32) (x4 : Int32) (M : Mem) (res : (Int32 × Mem)), mK_isOfThrees_36 n x1 x3 x4 M = some res → ∀ (u2 : AV), Wm E p l e 2 s m args below meth c 5 36 [aR (40, 0, 0), aI x1, u2, aI x3, aI x4] [] M (outI res).1 (outI res).2 := by
  intro n
  induction n with
  | zero => intro _ _ _ M res h; cases h
  | succ n ih =>
    intro x1 x3 x4 M res h u2
    refine run_at C A rfl hrtI (n := 400) ((eK_isOfThrees_36 (mK_isOfThrees_36 n) x1 x3 x4 M u2).trans h) ?_
    intro t als st M hk
    unfold KK_isOfThrees_36 at hk
    split at hk
    · rename_i ht
      subst ht
      split at hk
      · split at hk
        · rename_i hc
          obtain ⟨rfl, rfl, rfl⟩ := hc
          exact ih _ _ _ _ _ hk _
        · cases hk
      · cases hk
    cases hk
def KK_isOfThrees (j36 : Int32 → Int32 → Int32 → Mem → Option (Int32 × Mem)) : Jm (Int32 × Mem) := fun t als st M =>
  if t = 36 then (match als, st with
  | [.inr (.inr (.inl (al0, bl0, cl0))), .inl x1, _, .inl x3, .inl x4], [] => if al0 = 40 ∧ bl0 = 0 ∧ cl0 = 0 then j36 x1 x3 x4 M else none
  | _, _ => none) else
  none
set_option maxRecDepth 1000000 in
theorem eK_isOfThrees (j36 : Int32 → Int32 → Int32 → Mem → Option (Int32 × Mem)) (x1 : Int32) (x2 : Int32) (M : Mem) : run (cK_isOfThrees) (KK_isOfThrees j36) rtI 400 (seek (cK_isOfThrees) 0) [aR (40, 0, 0), aI x1, aI x2, aU, aU] [] M = mK_isOfThreesb j36 x1 x2 M := id rfl
theorem lK_isOfThrees {E : EV} {l : Launch} {p : Program} {e : Env} {s : State} {m : MethodId} {args : Array Value} {below : List Frame} {meth : Method} {c : Code} (A : AllOK E l 2 "FreeLancesModel" prog_13_method_86_code 5 (some .boolean) outI (cK_isOfThrees)) (C : Cx E p s m args meth c "FreeLancesModel" prog_13_method_86_code 5 (some .boolean)) : ∀ (x1 : Int32) (x2 : Int32) (M : Mem) (res : (Int32 × Mem)), mK_isOfThrees x1 x2 M = some res → Wm E p l e 2 s m args below meth c 5 0 [aR (40, 0, 0), aI x1, aI x2, aU, aU] [] M (outI res).1 (outI res).2 := by
  intro x1 x2 M res h
  refine run_at C A rfl hrtI (n := 400) ((eK_isOfThrees (mK_isOfThrees_36 fuel) x1 x2 M).trans h) ?_
  intro t als st M hk
  unfold KK_isOfThrees at hk
  split at hk
  · rename_i ht
    subst ht
    split at hk
    · split at hk
      · rename_i hc
        obtain ⟨rfl, rfl, rfl⟩ := hc
        exact lK_isOfThrees_36 A C _ _ _ _ _ _ hk _
      · cases hk
    · cases hk
  cases hk
def dK_isOfThrees {β : Type} : Den β := fun as M k => match as with
  | [.inr (.inr (.inl (al0, bl0, cl0))), .inl x1, .inl x2] => if al0 = 40 ∧ bl0 = 0 ∧ cl0 = 0 then (mK_isOfThrees x1 x2 M).bind fun q => k (aI q.1) q.2 else none
  | _ => none
theorem wK_isOfThrees {E : EV} (hsd : E.2.2.2 = 1) (l : Launch) (x1 : Int32) (x2 : Int32) (M : Mem) (q : (Int32 × Mem)) (hq : mK_isOfThrees x1 x2 M = some q) : Con E l 2 yK_isOfThrees prog_13_method_86_code 5 (some .boolean) [aR (40, 0, 0), aI x1, aI x2] M (outI q).1 (outI q).2 := by
  refine con_of iK_isOfThrees (Nat.le_of_ble_eq_true rfl) ?_
  intro p e s m args below meth c C
  exact lK_isOfThrees (oK_isOfThrees hsd l) C x1 x2 M _ hq
theorem kK_isOfThrees {E : EV} (hsd : E.2.2.2 = 1) (l : Launch) {β : Type} : DenOK E l 2 yK_isOfThrees prog_13_method_86_code 5 (some .boolean) true (dK_isOfThrees (β := β)) := by
  intro as M k res h
  unfold dK_isOfThrees at h
  split at h
  ·
    split at h
    · rename_i hc
      obtain ⟨rfl, rfl, rfl⟩ := hc
      obtain ⟨q, hq, hk⟩ := Option.bind_eq_some_iff.mp h
      exact ⟨aI q.1, q.2, hk, rfl, wK_isOfThrees hsd l _ _ M q hq⟩
    · cases h
  · cases h
theorem qK_isOfThrees {β : Type} : RecOK 40 (dK_isOfThrees (β := β)) := by
  intro as M k res h
  unfold dK_isOfThrees at h
  split at h
  ·
    split at h
    · rename_i hc
      obtain ⟨rfl, rfl, rfl⟩ := hc
      exact ⟨_, _, _, rfl⟩
    · cases h
  · cases h
/-! ===== FreeLancesModel.ask(III)I ===== -/
abbrev yK_ask : MethodName := ⟨"FreeLancesModel", "ask", "(III)I"⟩
theorem iK_ask : MI yK_ask prog_13_method_87_code 13 (some .int) 3 := ⟨tw1658, tw108, ⟨by decide, by decide⟩, by decide +kernel, by decide, by decide⟩
def cK_ask : List (Ent (Int32 × Mem)) := [(false, 0, 1, sLdA 0),
  (false, 1, 1, sLdI 1),
  (false, 2, 3, sInv 2 true dK_isTown),
  (false, 5, 3, sIfEq 15),
  (false, 8, 1, sLdI 2),
  (false, 9, 3, sInv 1 true dK_isSheet),
  (false, 12, 3, sIfNe 21),
  (false, 15, 1, sLdA 0),
  (false, 16, 1, sC 1),
  (false, 17, 3, sInv 2 true dK_finds),
  (false, 20, 1, sRetI),
  (false, 21, 1, sLdA 0),
  (false, 22, 3, sGet 40 (fun w i M => aR (64, 0, 0))),
  (false, 25, 1, sLdI 2),
  (false, 26, 1, sIald 64 4),
  (false, 27, 3, sIfNe 36),
  (false, 30, 1, sLdA 0),
  (false, 31, 1, sC 2),
  (false, 32, 3, sInv 2 true dK_finds),
  (false, 35, 1, sRetI),
  (false, 36, 1, sLdA 0),
  (false, 37, 1, sLdI 2),
  (false, 38, 1, sC 4),
  (false, 39, 3, sInv 3 true dK_isOfThrees),
  (false, 42, 3, sIfNe 51),
  (false, 45, 1, sLdA 0),
  (false, 46, 1, sC 5),
  (false, 47, 3, sInv 2 true dK_finds),
  (false, 50, 1, sRetI),
  (false, 51, 1, sLdA 0),
  (false, 52, 3, sGet 40 (fun w i M => aR (65, 0, 0))),
  (false, 55, 1, sLdI 2),
  (false, 56, 1, sIald 65 4),
  (false, 57, 1, sC 3),
  (false, 58, 1, sBin0 (fun x y => x / y)),
  (false, 59, 2, sStI 4),
  (false, 61, 1, sLdI 3),
  (false, 62, 1, sC (-1)),
  (false, 63, 2, sLdI 4),
  (false, 65, 1, sC 1),
  (false, 66, 1, sBin (fun x y => x - y)),
  (false, 67, 3, sInv 3 true dK_in),
  (false, 70, 3, sIfNe 79),
  (false, 73, 1, sLdA 0),
  (false, 74, 1, sC 1),
  (false, 75, 3, sInv 2 true dK_finds),
  (false, 78, 1, sRetI),
  (false, 79, 1, sC (-1)),
  (false, 80, 2, sStI 5),
  (false, 82, 1, sC 0),
  (false, 83, 2, sStI 6),
  (false, 85, 1, sC 0),
  (false, 86, 2, sStI 7),
  (true, 88, 2, sLdI 7),
  (false, 90, 1, sC 1),
  (false, 91, 2, sLdI 4),
  (false, 93, 1, sBin (fun x y => x <<< (y &&& 31))),
  (false, 94, 3, sCmpGe 240),
  (false, 97, 1, sC 0),
  (false, 98, 2, sStI 8),
  (false, 100, 1, sC 0),
  (false, 101, 2, sStI 9),
  (false, 103, 1, sC 0),
  (false, 104, 2, sStI 10),
  (false, 106, 1, sC 0),
  (false, 107, 2, sStI 11),
  (true, 109, 2, sLdI 11),
  (false, 111, 2, sLdI 4),
  (false, 113, 3, sCmpGe 194),
  (false, 116, 2, sC 24),
  (false, 118, 1, sLdI 2),
  (false, 119, 1, sBin (fun x y => x * y)),
  (false, 120, 1, sC 3),
  (false, 121, 2, sLdI 11),
  (false, 123, 1, sBin (fun x y => x * y)),
  (false, 124, 1, sBin (fun x y => x + y)),
  (false, 125, 2, sStI 12),
  (false, 127, 2, sLdI 7),
  (false, 129, 2, sLdI 4),
  (false, 131, 1, sC 1),
  (false, 132, 1, sBin (fun x y => x - y)),
  (false, 133, 2, sLdI 11),
  (false, 135, 1, sBin (fun x y => x - y)),
  (false, 136, 1, sBin (fun x y => x >>> (y &&& 31))),
  (false, 137, 1, sC 1),
  (false, 138, 1, sBin (fun x y => x &&& y)),
  (false, 139, 3, sIfNe 159),
  (false, 142, 2, sLdI 9),
  (false, 144, 1, sLdA 0),
  (false, 145, 3, sGet 40 (fun w i M => aR (66, 0, 0))),
  (false, 148, 2, sLdI 12),
  (false, 150, 1, sC 1),
  (false, 151, 1, sBin (fun x y => x + y)),
  (false, 152, 1, sIald 66 96),
  (false, 153, 1, sBin (fun x y => x + y)),
  (false, 154, 2, sStI 9),
  (false, 156, 3, sGoto 188),
  (false, 159, 2, sLdI 8),
  (false, 161, 1, sLdA 0),
  (false, 162, 3, sGet 40 (fun w i M => aR (66, 0, 0))),
  (false, 165, 2, sLdI 12),
  (false, 167, 1, sIald 66 96),
  (false, 168, 2, sLdI 10),
  (false, 170, 1, sBin (fun x y => x + y)),
  (false, 171, 1, sBin (fun x y => x + y)),
  (false, 172, 2, sStI 8),
  (false, 174, 2, sLdI 10),
  (false, 176, 1, sLdA 0),
  (false, 177, 3, sGet 40 (fun w i M => aR (66, 0, 0))),
  (false, 180, 2, sLdI 12),
  (false, 182, 1, sC 2),
  (false, 183, 1, sBin (fun x y => x + y)),
  (false, 184, 1, sIald 66 96),
  (false, 185, 1, sBin (fun x y => x + y)),
  (false, 186, 2, sStI 10),
  (false, 188, 3, sInc 11 1),
  (false, 191, 3, sGoto 109),
  (false, 194, 2, sLdI 8),
  (false, 196, 1, sLdA 0),
  (false, 197, 1, sLdI 1),
  (false, 198, 1, sC 0),
  (false, 199, 3, sInv 3 true dK_ofTown),
  (false, 202, 3, sCmpGt 234),
  (false, 205, 2, sLdI 5),
  (false, 207, 3, sIfLt 223),
  (false, 210, 2, sLdI 8),
  (false, 212, 2, sLdI 9),
  (false, 214, 1, sBin (fun x y => x + y)),
  (false, 215, 2, sLdI 6),
  (false, 217, 3, sCmpLt 223),
  (false, 220, 3, sGoto 234),
  (false, 223, 2, sLdI 7),
  (false, 225, 2, sStI 5),
  (false, 227, 2, sLdI 8),
  (false, 229, 2, sLdI 9),
  (false, 231, 1, sBin (fun x y => x + y)),
  (false, 232, 2, sStI 6),
  (false, 234, 3, sInc 7 1),
  (false, 237, 3, sGoto 88),
  (false, 240, 1, sLdI 3),
  (false, 241, 3, sIfGe 249),
  (false, 244, 2, sLdI 6),
  (false, 246, 3, sGoto 260),
  (false, 249, 2, sLdI 5),
  (false, 251, 2, sLdI 4),
  (false, 253, 1, sC 1),
  (false, 254, 1, sBin (fun x y => x - y)),
  (false, 255, 1, sLdI 3),
  (false, 256, 1, sBin (fun x y => x - y)),
  (false, 257, 1, sBin (fun x y => x >>> (y &&& 31))),
  (false, 258, 1, sC 1),
  (false, 259, 1, sBin (fun x y => x &&& y)),
  (false, 260, 1, sRetI)]
theorem oK_ask {E : EV} (hsd : E.2.2.2 = 1) (l : Launch) : AllOK E l 3 "FreeLancesModel" prog_13_method_87_code 13 (some .int) outI (cK_ask) := by
  refine ak (ok_aload_n (k := 0) rfl (by decide +kernel)) ?_
  refine ak (ok_iload_n (k := 1) rfl (by decide +kernel)) ?_
  refine ak (ok_invV (r := 40) (kK_isTown hsd l) qK_isTown ck11 kd40 iK_isTown tw1343 tw38 (by decide) tw1341 (by decide +kernel)) ?_
  refine ak (ok_if_eq (off := 10) (by decide) (by decide +kernel)) ?_
  refine ak (ok_iload_n (k := 2) rfl (by decide +kernel)) ?_
  refine ak (ok_invS (kK_isSheet hsd l) iK_isSheet tw1625 (by decide) tw1624 (by decide +kernel)) ?_
  refine ak (ok_if_ne (off := 9) (by decide) (by decide +kernel)) ?_
  refine ak (ok_aload_n (k := 0) rfl (by decide +kernel)) ?_
  refine ak (ok_iconst (n := 1) (by decide) (by decide +kernel)) ?_
  refine ak (ok_invV (r := 40) (kK_finds hsd l) qK_finds ck11 kd40 iK_finds tw1334 tw37 (by decide) tw1332 (by decide +kernel)) ?_
  refine ak (ok_ireturn rfl (by decide +kernel)) ?_
  refine ak (ok_aload_n (k := 0) rfl (by decide +kernel)) ?_
  refine ak (ok_get (k := 23) ck11 kd40 (by decide) (fun _ _ _ => rfl) (vf_40_23 hsd) tw1265 (by decide +kernel)) ?_
  refine ak (ok_iload_n (k := 2) rfl (by decide +kernel)) ?_
  refine ak (ok_iald kd64 (by decide) (by decide +kernel)) ?_
  refine ak (ok_if_ne (off := 9) (by decide) (by decide +kernel)) ?_
  refine ak (ok_aload_n (k := 0) rfl (by decide +kernel)) ?_
  refine ak (ok_iconst (n := 2) (by decide) (by decide +kernel)) ?_
  refine ak (ok_invV (r := 40) (kK_finds hsd l) qK_finds ck11 kd40 iK_finds tw1334 tw37 (by decide) tw1332 (by decide +kernel)) ?_
  refine ak (ok_ireturn rfl (by decide +kernel)) ?_
  refine ak (ok_aload_n (k := 0) rfl (by decide +kernel)) ?_
  refine ak (ok_iload_n (k := 2) rfl (by decide +kernel)) ?_
  refine ak (ok_iconst (n := 4) (by decide) (by decide +kernel)) ?_
  refine ak (ok_invV (r := 40) (kK_isOfThrees hsd l) qK_isOfThrees ck11 kd40 iK_isOfThrees tw1661 tw77 (by decide) tw1659 (by decide +kernel)) ?_
  refine ak (ok_if_ne (off := 9) (by decide) (by decide +kernel)) ?_
  refine ak (ok_aload_n (k := 0) rfl (by decide +kernel)) ?_
  refine ak (ok_iconst (n := 5) (by decide) (by decide +kernel)) ?_
  refine ak (ok_invV (r := 40) (kK_finds hsd l) qK_finds ck11 kd40 iK_finds tw1334 tw37 (by decide) tw1332 (by decide +kernel)) ?_
  refine ak (ok_ireturn rfl (by decide +kernel)) ?_
  refine ak (ok_aload_n (k := 0) rfl (by decide +kernel)) ?_
  refine ak (ok_get (k := 24) ck11 kd40 (by decide) (fun _ _ _ => rfl) (vf_40_24 hsd) tw1266 (by decide +kernel)) ?_
  refine ak (ok_iload_n (k := 2) rfl (by decide +kernel)) ?_
  refine ak (ok_iald kd65 (by decide) (by decide +kernel)) ?_
  refine ak (ok_iconst (n := 3) (by decide) (by decide +kernel)) ?_
  refine ak (ok_idiv (by decide +kernel)) ?_
  refine ak (ok_istore (by decide) (by decide +kernel)) ?_
  refine ak (ok_iload_n (k := 3) rfl (by decide +kernel)) ?_
  refine ak (ok_iconst (n := (-1)) (by decide) (by decide +kernel)) ?_
  refine ak (ok_iload (by decide +kernel)) ?_
  refine ak (ok_iconst (n := 1) (by decide) (by decide +kernel)) ?_
  refine ak (ok_isub (by decide +kernel)) ?_
  refine ak (ok_invS (kK_in hsd l) iK_in tw1330 (by decide) tw1329 (by decide +kernel)) ?_
  refine ak (ok_if_ne (off := 9) (by decide) (by decide +kernel)) ?_
  refine ak (ok_aload_n (k := 0) rfl (by decide +kernel)) ?_
  refine ak (ok_iconst (n := 1) (by decide) (by decide +kernel)) ?_
  refine ak (ok_invV (r := 40) (kK_finds hsd l) qK_finds ck11 kd40 iK_finds tw1334 tw37 (by decide) tw1332 (by decide +kernel)) ?_
  refine ak (ok_ireturn rfl (by decide +kernel)) ?_
  refine ak (ok_iconst (n := (-1)) (by decide) (by decide +kernel)) ?_
  refine ak (ok_istore (by decide) (by decide +kernel)) ?_
  refine ak (ok_iconst (n := 0) (by decide) (by decide +kernel)) ?_
  refine ak (ok_istore (by decide) (by decide +kernel)) ?_
  refine ak (ok_iconst (n := 0) (by decide) (by decide +kernel)) ?_
  refine ak (ok_istore (by decide) (by decide +kernel)) ?_
  refine ak (ok_iload (by decide +kernel)) ?_
  refine ak (ok_iconst (n := 1) (by decide) (by decide +kernel)) ?_
  refine ak (ok_iload (by decide +kernel)) ?_
  refine ak (ok_ishl (by decide +kernel)) ?_
  refine ak (ok_icmp_ge (off := 146) (by decide) (by decide +kernel)) ?_
  refine ak (ok_iconst (n := 0) (by decide) (by decide +kernel)) ?_
  refine ak (ok_istore (by decide) (by decide +kernel)) ?_
  refine ak (ok_iconst (n := 0) (by decide) (by decide +kernel)) ?_
  refine ak (ok_istore (by decide) (by decide +kernel)) ?_
  refine ak (ok_iconst (n := 0) (by decide) (by decide +kernel)) ?_
  refine ak (ok_istore (by decide) (by decide +kernel)) ?_
  refine ak (ok_iconst (n := 0) (by decide) (by decide +kernel)) ?_
  refine ak (ok_istore (by decide) (by decide +kernel)) ?_
  refine ak (ok_iload (by decide +kernel)) ?_
  refine ak (ok_iload (by decide +kernel)) ?_
  refine ak (ok_icmp_ge (off := 81) (by decide) (by decide +kernel)) ?_
  refine ak (ok_bipush (n := 24) (by decide) (by decide +kernel)) ?_
  refine ak (ok_iload_n (k := 2) rfl (by decide +kernel)) ?_
  refine ak (ok_imul (by decide +kernel)) ?_
  refine ak (ok_iconst (n := 3) (by decide) (by decide +kernel)) ?_
  refine ak (ok_iload (by decide +kernel)) ?_
  refine ak (ok_imul (by decide +kernel)) ?_
  refine ak (ok_iadd (by decide +kernel)) ?_
  refine ak (ok_istore (by decide) (by decide +kernel)) ?_
  refine ak (ok_iload (by decide +kernel)) ?_
  refine ak (ok_iload (by decide +kernel)) ?_
  refine ak (ok_iconst (n := 1) (by decide) (by decide +kernel)) ?_
  refine ak (ok_isub (by decide +kernel)) ?_
  refine ak (ok_iload (by decide +kernel)) ?_
  refine ak (ok_isub (by decide +kernel)) ?_
  refine ak (ok_ishr (by decide +kernel)) ?_
  refine ak (ok_iconst (n := 1) (by decide) (by decide +kernel)) ?_
  refine ak (ok_iand (by decide +kernel)) ?_
  refine ak (ok_if_ne (off := 20) (by decide) (by decide +kernel)) ?_
  refine ak (ok_iload (by decide +kernel)) ?_
  refine ak (ok_aload_n (k := 0) rfl (by decide +kernel)) ?_
  refine ak (ok_get (k := 25) ck11 kd40 (by decide) (fun _ _ _ => rfl) (vf_40_25 hsd) tw1267 (by decide +kernel)) ?_
  refine ak (ok_iload (by decide +kernel)) ?_
  refine ak (ok_iconst (n := 1) (by decide) (by decide +kernel)) ?_
  refine ak (ok_iadd (by decide +kernel)) ?_
  refine ak (ok_iald kd66 (by decide) (by decide +kernel)) ?_
  refine ak (ok_iadd (by decide +kernel)) ?_
  refine ak (ok_istore (by decide) (by decide +kernel)) ?_
  refine ak (ok_goto (off := 32) (by decide) (by decide +kernel)) ?_
  refine ak (ok_iload (by decide +kernel)) ?_
  refine ak (ok_aload_n (k := 0) rfl (by decide +kernel)) ?_
  refine ak (ok_get (k := 25) ck11 kd40 (by decide) (fun _ _ _ => rfl) (vf_40_25 hsd) tw1267 (by decide +kernel)) ?_
  refine ak (ok_iload (by decide +kernel)) ?_
  refine ak (ok_iald kd66 (by decide) (by decide +kernel)) ?_
  refine ak (ok_iload (by decide +kernel)) ?_
  refine ak (ok_iadd (by decide +kernel)) ?_
  refine ak (ok_iadd (by decide +kernel)) ?_
  refine ak (ok_istore (by decide) (by decide +kernel)) ?_
  refine ak (ok_iload (by decide +kernel)) ?_
  refine ak (ok_aload_n (k := 0) rfl (by decide +kernel)) ?_
  refine ak (ok_get (k := 25) ck11 kd40 (by decide) (fun _ _ _ => rfl) (vf_40_25 hsd) tw1267 (by decide +kernel)) ?_
  refine ak (ok_iload (by decide +kernel)) ?_
  refine ak (ok_iconst (n := 2) (by decide) (by decide +kernel)) ?_
  refine ak (ok_iadd (by decide +kernel)) ?_
  refine ak (ok_iald kd66 (by decide) (by decide +kernel)) ?_
  refine ak (ok_iadd (by decide +kernel)) ?_
  refine ak (ok_istore (by decide) (by decide +kernel)) ?_
  refine ak (ok_iinc (n := 1) (by decide) (by decide) (by decide +kernel)) ?_
  refine ak (ok_goto (off := (-82)) (by decide) (by decide +kernel)) ?_
  refine ak (ok_iload (by decide +kernel)) ?_
  refine ak (ok_aload_n (k := 0) rfl (by decide +kernel)) ?_
  refine ak (ok_iload_n (k := 1) rfl (by decide +kernel)) ?_
  refine ak (ok_iconst (n := 0) (by decide) (by decide +kernel)) ?_
  refine ak (ok_invV (r := 40) (kK_ofTown hsd l) qK_ofTown ck11 kd40 iK_ofTown tw1359 tw40 (by decide) tw1357 (by decide +kernel)) ?_
  refine ak (ok_icmp_gt (off := 32) (by decide) (by decide +kernel)) ?_
  refine ak (ok_iload (by decide +kernel)) ?_
  refine ak (ok_if_lt (off := 16) (by decide) (by decide +kernel)) ?_
  refine ak (ok_iload (by decide +kernel)) ?_
  refine ak (ok_iload (by decide +kernel)) ?_
  refine ak (ok_iadd (by decide +kernel)) ?_
  refine ak (ok_iload (by decide +kernel)) ?_
  refine ak (ok_icmp_lt (off := 6) (by decide) (by decide +kernel)) ?_
  refine ak (ok_goto (off := 14) (by decide) (by decide +kernel)) ?_
  refine ak (ok_iload (by decide +kernel)) ?_
  refine ak (ok_istore (by decide) (by decide +kernel)) ?_
  refine ak (ok_iload (by decide +kernel)) ?_
  refine ak (ok_iload (by decide +kernel)) ?_
  refine ak (ok_iadd (by decide +kernel)) ?_
  refine ak (ok_istore (by decide) (by decide +kernel)) ?_
  refine ak (ok_iinc (n := 1) (by decide) (by decide) (by decide +kernel)) ?_
  refine ak (ok_goto (off := (-149)) (by decide) (by decide +kernel)) ?_
  refine ak (ok_iload_n (k := 3) rfl (by decide +kernel)) ?_
  refine ak (ok_if_ge (off := 8) (by decide) (by decide +kernel)) ?_
  refine ak (ok_iload (by decide +kernel)) ?_
  refine ak (ok_goto (off := 14) (by decide) (by decide +kernel)) ?_
  refine ak (ok_iload (by decide +kernel)) ?_
  refine ak (ok_iload (by decide +kernel)) ?_
  refine ak (ok_iconst (n := 1) (by decide) (by decide +kernel)) ?_
  refine ak (ok_isub (by decide +kernel)) ?_
  refine ak (ok_iload_n (k := 3) rfl (by decide +kernel)) ?_
  refine ak (ok_isub (by decide +kernel)) ?_
  refine ak (ok_ishr (by decide +kernel)) ?_
  refine ak (ok_iconst (n := 1) (by decide) (by decide +kernel)) ?_
  refine ak (ok_iand (by decide +kernel)) ?_
  refine ak (ok_ireturn rfl (by decide +kernel)) ?_
  exact trivial
def KK_ask_109 (j88 : Int32 → Int32 → Int32 → Int32 → Int32 → Int32 → Int32 → Mem → Option (Int32 × Mem)) (j109 : Int32 → Int32 → Int32 → Int32 → Int32 → Int32 → Int32 → Int32 → Int32 → Int32 → Int32 → Mem → Option (Int32 × Mem)) : Jm (Int32 × Mem) := fun t als st M =>
  if t = 88 then (match als, st with
  | [.inr (.inr (.inl (al0, bl0, cl0))), .inl x1, .inl x2, .inl x3, .inl x4, .inl x5, .inl x6, .inl x7, _, _, _, _, _], [] => if al0 = 40 ∧ bl0 = 0 ∧ cl0 = 0 then j88 x1 x2 x3 x4 x5 x6 x7 M else none
  | _, _ => none) else
  if t = 109 then (match als, st with
  | [.inr (.inr (.inl (al0, bl0, cl0))), .inl x1, .inl x2, .inl x3, .inl x4, .inl x5, .inl x6, .inl x7, .inl x8, .inl x9, .inl x10, .inl x11, _], [] => if al0 = 40 ∧ bl0 = 0 ∧ cl0 = 0 then j109 x1 x2 x3 x4 x5 x6 x7 x8 x9 x10 x11 M else none
  | _, _ => none) else
  none
set_option maxRecDepth 1000000 in
theorem eK_ask_109 (j88 : Int32 → Int32 → Int32 → Int32 → Int32 → Int32 → Int32 → Mem → Option (Int32 × Mem)) (j109 : Int32 → Int32 → Int32 → Int32 → Int32 → Int32 → Int32 → Int32 → Int32 → Int32 → Int32 → Mem → Option (Int32 × Mem)) (x1 : Int32) (x2 : Int32) (x3 : Int32) (x4 : Int32) (x5 : Int32) (x6 : Int32) (x7 : Int32) (x8 : Int32) (x9 : Int32) (x10 : Int32) (x11 : Int32) (M : Mem) (u12 : AV) : run (cK_ask) (KK_ask_109 j88 j109) rtI 400 (seek (cK_ask) 109) [aR (40, 0, 0), aI x1, aI x2, aI x3, aI x4, aI x5, aI x6, aI x7, aI x8, aI x9, aI x10, aI x11, u12] [] M = mK_ask_109b j88 j109 x1 x2 x3 x4 x5 x6 x7 x8 x9 x10 x11 M := id rfl
theorem lK_ask_109 {E : EV} {l : Launch} {p : Program} {e : Env} {s : State} {m : MethodId} {args : Array Value} {below : List Frame} {meth : Method} {c : Code} (A : AllOK E l 3 "FreeLancesModel" prog_13_method_87_code 13 (some .int) outI (cK_ask)) (C : Cx E p s m args meth c "FreeLancesModel" prog_13_method_87_code 13 (some .int)) {r88 : Int32 → Int32 → Int32 → Int32 → Int32 → Int32 → Int32 → Mem → Option (Int32 × Mem)} (H88 : ∀ (x1 : Int32) (x2 : Int32) (x3 : Int32) (x4 : Int32) (x5 : Int32) (x6 : Int32) (x7 : Int32) (M : Mem) (res : (Int32 × Mem)), r88 x1 x2 x3 x4 x5 x6 x7 M = some res → ∀ (u8 u9 u10 u11 u12 : AV), Wm E p l e 3 s m args below meth c 13 88 [aR (40, 0, 0), aI x1, aI x2, aI x3, aI x4, aI x5, aI x6, aI x7, u8, u9, u10, u11, u12] [] M (outI res).1 (outI res).2) : ∀ (n : Nat), ∀ (x1 : Int32) (x2 : Int32) (x3 : Int32) (x4 : Int32) (x5 : Int32) (x6 : Int32) (x7 : Int32) (x8 : Int32) (x9 : Int32) (x10 : Int32) (x11 : Int32) (M : Mem) (res : (Int32 × Mem)), mK_ask_109 r88 n x1 x2 x3 x4 x5 x6 x7 x8 x9 x10 x11 M = some res → ∀ (u12 : AV), Wm E p l e 3 s m args below meth c 13 109 [aR (40, 0, 0), aI x1, aI x2, aI x3, aI x4, aI x5, aI x6, aI x7, aI x8, aI x9, aI x10, aI x11, u12] [] M (outI res).1 (outI res).2 := by
  intro n
  induction n with
  | zero => intro _ _ _ _ _ _ _ _ _ _ _ M res h; cases h
  | succ n ih =>
    intro x1 x2 x3 x4 x5 x6 x7 x8 x9 x10 x11 M res h u12
    refine run_at C A rfl hrtI (n := 400) ((eK_ask_109 r88 (mK_ask_109 r88 n) x1 x2 x3 x4 x5 x6 x7 x8 x9 x10 x11 M u12).trans h) ?_
    intro t als st M hk
    unfold KK_ask_109 at hk
    split at hk
    · rename_i ht
      subst ht
      split at hk
      · split at hk
        · rename_i hc
          obtain ⟨rfl, rfl, rfl⟩ := hc
          exact H88 _ _ _ _ _ _ _ _ _ hk _ _ _ _ _
        · cases hk
      · cases hk
    split at hk
    · rename_i ht
      subst ht
      split at hk
      · split at hk
        · rename_i hc
          obtain ⟨rfl, rfl, rfl⟩ := hc
          exact ih _ _ _ _ _ _ _ _ _ _ _ _ _ hk _
        · cases hk
      · cases hk
    cases hk
def KK_ask_88 (j109 : Int32 → Int32 → Int32 → Int32 → Int32 → Int32 → Int32 → Int32 → Int32 → Int32 → Int32 → Mem → Option (Int32 × Mem)) : Jm (Int32 × Mem) := fun t als st M =>
  if t = 109 then (match als, st with
  | [.inr (.inr (.inl (al0, bl0, cl0))), .inl x1, .inl x2, .inl x3, .inl x4, .inl x5, .inl x6, .inl x7, .inl x8, .inl x9, .inl x10, .inl x11, _], [] => if al0 = 40 ∧ bl0 = 0 ∧ cl0 = 0 then j109 x1 x2 x3 x4 x5 x6 x7 x8 x9 x10 x11 M else none
  | _, _ => none) else
  none
set_option maxRecDepth 1000000 in
theorem eK_ask_88 (j109 : Int32 → Int32 → Int32 → Int32 → Int32 → Int32 → Int32 → Int32 → Int32 → Int32 → Int32 → Mem → Option (Int32 × Mem)) (x1 : Int32) (x2 : Int32) (x3 : Int32) (x4 : Int32) (x5 : Int32) (x6 : Int32) (x7 : Int32) (M : Mem) (u8 u9 u10 u11 u12 : AV) : run (cK_ask) (KK_ask_88 j109) rtI 400 (seek (cK_ask) 88) [aR (40, 0, 0), aI x1, aI x2, aI x3, aI x4, aI x5, aI x6, aI x7, u8, u9, u10, u11, u12] [] M = mK_ask_88b j109 x1 x2 x3 x4 x5 x6 x7 M := id rfl
theorem lK_ask_88 {E : EV} {l : Launch} {p : Program} {e : Env} {s : State} {m : MethodId} {args : Array Value} {below : List Frame} {meth : Method} {c : Code} (A : AllOK E l 3 "FreeLancesModel" prog_13_method_87_code 13 (some .int) outI (cK_ask)) (C : Cx E p s m args meth c "FreeLancesModel" prog_13_method_87_code 13 (some .int)) : ∀ (n : Nat), ∀ (x1 : Int32) (x2 : Int32) (x3 : Int32) (x4 : Int32) (x5 : Int32) (x6 : Int32) (x7 : Int32) (M : Mem) (res : (Int32 × Mem)), mK_ask_88 n x1 x2 x3 x4 x5 x6 x7 M = some res → ∀ (u8 u9 u10 u11 u12 : AV), Wm E p l e 3 s m args below meth c 13 88 [aR (40, 0, 0), aI x1, aI x2, aI x3, aI x4, aI x5, aI x6, aI x7, u8, u9, u10, u11, u12] [] M (outI res).1 (outI res).2 := by
  intro n
  induction n with
  | zero => intro _ _ _ _ _ _ _ M res h; cases h
  | succ n ih =>
    intro x1 x2 x3 x4 x5 x6 x7 M res h u8 u9 u10 u11 u12
    refine run_at C A rfl hrtI (n := 400) ((eK_ask_88 (mK_ask_109 (mK_ask_88 n) fuel) x1 x2 x3 x4 x5 x6 x7 M u8 u9 u10 u11 u12).trans h) ?_
    intro t als st M hk
    unfold KK_ask_88 at hk
    split at hk
    · rename_i ht
      subst ht
      split at hk
      · split at hk
        · rename_i hc
          obtain ⟨rfl, rfl, rfl⟩ := hc
          exact lK_ask_109 A C ih _ _ _ _ _ _ _ _ _ _ _ _ _ _ hk _
        · cases hk
      · cases hk
    cases hk
def KK_ask (j88 : Int32 → Int32 → Int32 → Int32 → Int32 → Int32 → Int32 → Mem → Option (Int32 × Mem)) : Jm (Int32 × Mem) := fun t als st M =>
  if t = 88 then (match als, st with
  | [.inr (.inr (.inl (al0, bl0, cl0))), .inl x1, .inl x2, .inl x3, .inl x4, .inl x5, .inl x6, .inl x7, _, _, _, _, _], [] => if al0 = 40 ∧ bl0 = 0 ∧ cl0 = 0 then j88 x1 x2 x3 x4 x5 x6 x7 M else none
  | _, _ => none) else
  none
set_option maxRecDepth 1000000 in
theorem eK_ask (j88 : Int32 → Int32 → Int32 → Int32 → Int32 → Int32 → Int32 → Mem → Option (Int32 × Mem)) (x1 : Int32) (x2 : Int32) (x3 : Int32) (M : Mem) : run (cK_ask) (KK_ask j88) rtI 400 (seek (cK_ask) 0) [aR (40, 0, 0), aI x1, aI x2, aI x3, aU, aU, aU, aU, aU, aU, aU, aU, aU] [] M = mK_askb j88 x1 x2 x3 M := id rfl
theorem lK_ask {E : EV} {l : Launch} {p : Program} {e : Env} {s : State} {m : MethodId} {args : Array Value} {below : List Frame} {meth : Method} {c : Code} (A : AllOK E l 3 "FreeLancesModel" prog_13_method_87_code 13 (some .int) outI (cK_ask)) (C : Cx E p s m args meth c "FreeLancesModel" prog_13_method_87_code 13 (some .int)) : ∀ (x1 : Int32) (x2 : Int32) (x3 : Int32) (M : Mem) (res : (Int32 × Mem)), mK_ask x1 x2 x3 M = some res → Wm E p l e 3 s m args below meth c 13 0 [aR (40, 0, 0), aI x1, aI x2, aI x3, aU, aU, aU, aU, aU, aU, aU, aU, aU] [] M (outI res).1 (outI res).2 := by
  intro x1 x2 x3 M res h
  refine run_at C A rfl hrtI (n := 400) ((eK_ask (mK_ask_88 fuel) x1 x2 x3 M).trans h) ?_
  intro t als st M hk
  unfold KK_ask at hk
  split at hk
  · rename_i ht
    subst ht
    split at hk
    · split at hk
      · rename_i hc
        obtain ⟨rfl, rfl, rfl⟩ := hc
        exact lK_ask_88 A C _ _ _ _ _ _ _ _ _ _ hk _ _ _ _ _
      · cases hk
    · cases hk
  cases hk
def dK_ask {β : Type} : Den β := fun as M k => match as with
  | [.inr (.inr (.inl (al0, bl0, cl0))), .inl x1, .inl x2, .inl x3] => if al0 = 40 ∧ bl0 = 0 ∧ cl0 = 0 then (mK_ask x1 x2 x3 M).bind fun q => k (aI q.1) q.2 else none
  | _ => none
theorem wK_ask {E : EV} (hsd : E.2.2.2 = 1) (l : Launch) (x1 : Int32) (x2 : Int32) (x3 : Int32) (M : Mem) (q : (Int32 × Mem)) (hq : mK_ask x1 x2 x3 M = some q) : Con E l 3 yK_ask prog_13_method_87_code 13 (some .int) [aR (40, 0, 0), aI x1, aI x2, aI x3] M (outI q).1 (outI q).2 := by
  refine con_of iK_ask (Nat.le_of_ble_eq_true rfl) ?_
  intro p e s m args below meth c C
  exact lK_ask (oK_ask hsd l) C x1 x2 x3 M _ hq
theorem kK_ask {E : EV} (hsd : E.2.2.2 = 1) (l : Launch) {β : Type} : DenOK E l 3 yK_ask prog_13_method_87_code 13 (some .int) true (dK_ask (β := β)) := by
  intro as M k res h
  unfold dK_ask at h
  split at h
  ·
    split at h
    · rename_i hc
      obtain ⟨rfl, rfl, rfl⟩ := hc
      obtain ⟨q, hq, hk⟩ := Option.bind_eq_some_iff.mp h
      exact ⟨aI q.1, q.2, hk, rfl, wK_ask hsd l _ _ _ M q hq⟩
    · cases h
  · cases h
theorem qK_ask {β : Type} : RecOK 40 (dK_ask (β := β)) := by
  intro as M k res h
  unfold dK_ask at h
  split at h
  ·
    split at h
    · rename_i hc
      obtain ⟨rfl, rfl, rfl⟩ := hc
      exact ⟨_, _, _, rfl⟩
    · cases h
  · cases h
/-! ===== FreeLancesModel.parts(III)I ===== -/
abbrev yK_parts : MethodName := ⟨"FreeLancesModel", "parts", "(III)I"⟩
theorem iK_parts : MI yK_parts prog_13_method_88_code 11 (some .int) 3 := ⟨tw1666, tw108, ⟨by decide, by decide⟩, by decide +kernel, by decide, by decide⟩
def cK_parts : List (Ent (Int32 × Mem)) := [(false, 0, 1, sLdI 1),
  (false, 1, 1, sC 0),
  (false, 2, 2, sC 99999),
  (false, 4, 3, sInv 3 true dK_in),
  (false, 7, 3, sIfEq 17),
  (false, 10, 1, sLdI 2),
  (false, 11, 3, sInv 1 true dK_isSheet),
  (false, 14, 3, sIfNe 23),
  (false, 17, 1, sLdA 0),
  (false, 18, 1, sC 1),
  (false, 19, 3, sInv 2 true dK_finds),
  (false, 22, 1, sRetI),
  (false, 23, 1, sLdA 0),
  (false, 24, 3, sGet 40 (fun w i M => aR (64, 0, 0))),
  (false, 27, 1, sLdI 2),
  (false, 28, 1, sIald 64 4),
  (false, 29, 3, sIfNe 38),
  (false, 32, 1, sLdA 0),
  (false, 33, 1, sC 2),
  (false, 34, 3, sInv 2 true dK_finds),
  (false, 37, 1, sRetI),
  (false, 38, 1, sC 0),
  (false, 39, 2, sStI 4),
  (false, 41, 1, sC 1),
  (false, 42, 2, sStI 5),
  (false, 44, 1, sC 0),
  (false, 45, 2, sStI 6),
  (true, 47, 2, sLdI 6),
  (false, 49, 1, sLdA 0),
  (false, 50, 3, sGet 40 (fun w i M => aR (65, 0, 0))),
  (false, 53, 1, sLdI 2),
  (false, 54, 1, sIald 65 4),
  (false, 55, 3, sCmpGe 124),
  (false, 58, 2, sLdI 5),
  (false, 60, 3, sIfEq 89),
  (false, 63, 1, sLdA 0),
  (false, 64, 3, sGet 40 (fun w i M => aR (66, 0, 0))),
  (false, 67, 2, sC 24),
  (false, 69, 1, sLdI 2),
  (false, 70, 1, sBin (fun x y => x * y)),
  (false, 71, 2, sLdI 6),
  (false, 73, 1, sBin (fun x y => x + y)),
  (false, 74, 1, sIald 66 96),
  (false, 75, 1, sC 0),
  (false, 76, 3, sC 999),
  (false, 79, 3, sInv 3 true dK_in),
  (false, 82, 3, sIfEq 89),
  (false, 85, 1, sC 1),
  (false, 86, 3, sGoto 90),
  (false, 89, 1, sC 0),
  (false, 90, 2, sStI 5),
  (false, 92, 2, sLdI 4),
  (false, 94, 2, sLdI 5),
  (false, 96, 3, sIfEq 114),
  (false, 99, 1, sLdA 0),
  (false, 100, 3, sGet 40 (fun w i M => aR (66, 0, 0))),
  (false, 103, 2, sC 24),
  (false, 105, 1, sLdI 2),
  (false, 106, 1, sBin (fun x y => x * y)),
  (false, 107, 2, sLdI 6),
  (false, 109, 1, sBin (fun x y => x + y)),
  (false, 110, 1, sIald 66 96),
  (false, 111, 3, sGoto 115),
  (false, 114, 1, sC 0),
  (false, 115, 1, sBin (fun x y => x + y)),
  (false, 116, 2, sStI 4),
  (false, 118, 3, sInc 6 1),
  (false, 121, 3, sGoto 47),
  (false, 124, 2, sLdI 5),
  (false, 126, 3, sIfEq 134),
  (false, 129, 2, sLdI 4),
  (false, 131, 3, sIfNe 140),
  (false, 134, 1, sLdA 0),
  (false, 135, 1, sC 5),
  (false, 136, 3, sInv 2 true dK_finds),
  (false, 139, 1, sRetI),
  (false, 140, 1, sLdI 3),
  (false, 141, 1, sC 0),
  (false, 142, 1, sLdA 0),
  (false, 143, 3, sGet 40 (fun w i M => aR (65, 0, 0))),
  (false, 146, 1, sLdI 2),
  (false, 147, 1, sIald 65 4),
  (false, 148, 1, sC 1),
  (false, 149, 1, sBin (fun x y => x - y)),
  (false, 150, 3, sInv 3 true dK_in),
  (false, 153, 3, sIfNe 162),
  (false, 156, 1, sLdA 0),
  (false, 157, 1, sC 1),
  (false, 158, 3, sInv 2 true dK_finds),
  (false, 161, 1, sRetI),
  (false, 162, 1, sLdI 1),
  (false, 163, 2, sStI 6),
  (false, 165, 1, sC 0),
  (false, 166, 2, sStI 7),
  (true, 168, 2, sLdI 7),
  (false, 170, 1, sLdA 0),
  (false, 171, 3, sGet 40 (fun w i M => aR (65, 0, 0))),
  (false, 174, 1, sLdI 2),
  (false, 175, 1, sIald 65 4),
  (false, 176, 3, sCmpGe 207),
  (false, 179, 2, sLdI 6),
  (false, 181, 1, sLdI 1),
  (false, 182, 1, sLdA 0),
  (false, 183, 3, sGet 40 (fun w i M => aR (66, 0, 0))),
  (false, 186, 2, sC 24),
  (false, 188, 1, sLdI 2),
  (false, 189, 1, sBin (fun x y => x * y)),
  (false, 190, 2, sLdI 7),
  (false, 192, 1, sBin (fun x y => x + y)),
  (false, 193, 1, sIald 66 96),
  (false, 194, 1, sBin (fun x y => x * y)),
  (false, 195, 2, sLdI 4),
  (false, 197, 1, sBin0 (fun x y => x / y)),
  (false, 198, 1, sBin (fun x y => x - y)),
  (false, 199, 2, sStI 6),
  (false, 201, 3, sInc 7 1),
  (false, 204, 3, sGoto 168),
  (false, 207, 1, sLdI 1),
  (false, 208, 1, sLdA 0),
  (false, 209, 3, sGet 40 (fun w i M => aR (66, 0, 0))),
  (false, 212, 2, sC 24),
  (false, 214, 1, sLdI 2),
  (false, 215, 1, sBin (fun x y => x * y)),
  (false, 216, 1, sLdI 3),
  (false, 217, 1, sBin (fun x y => x + y)),
  (false, 218, 1, sIald 66 96),
  (false, 219, 1, sBin (fun x y => x * y)),
  (false, 220, 2, sLdI 4),
  (false, 222, 1, sBin0 (fun x y => x - x / y * y)),
  (false, 223, 2, sStI 7),
  (false, 225, 1, sC 0),
  (false, 226, 2, sStI 8),
  (false, 228, 1, sC 0),
  (false, 229, 2, sStI 9),
  (true, 231, 2, sLdI 9),
  (false, 233, 1, sLdA 0),
  (false, 234, 3, sGet 40 (fun w i M => aR (65, 0, 0))),
  (false, 237, 1, sLdI 2),
  (false, 238, 1, sIald 65 4),
  (false, 239, 3, sCmpGe 297),
  (false, 242, 1, sLdI 1),
  (false, 243, 1, sLdA 0),
  (false, 244, 3, sGet 40 (fun w i M => aR (66, 0, 0))),
  (false, 247, 2, sC 24),
  (false, 249, 1, sLdI 2),
  (false, 250, 1, sBin (fun x y => x * y)),
  (false, 251, 2, sLdI 9),
  (false, 253, 1, sBin (fun x y => x + y)),
  (false, 254, 1, sIald 66 96),
  (false, 255, 1, sBin (fun x y => x * y)),
  (false, 256, 2, sLdI 4),
  (false, 258, 1, sBin0 (fun x y => x - x / y * y)),
  (false, 259, 2, sStI 10),
  (false, 261, 2, sLdI 8),
  (false, 263, 2, sLdI 10),
  (false, 265, 2, sLdI 7),
  (false, 267, 3, sCmpGt 283),
  (false, 270, 2, sLdI 10),
  (false, 272, 2, sLdI 7),
  (false, 274, 3, sCmpNe 287),
  (false, 277, 2, sLdI 9),
  (false, 279, 1, sLdI 3),
  (false, 280, 3, sCmpGe 287),
  (false, 283, 1, sC 1),
  (false, 284, 3, sGoto 288),
  (false, 287, 1, sC 0),
  (false, 288, 1, sBin (fun x y => x + y)),
  (false, 289, 2, sStI 8),
  (false, 291, 3, sInc 9 1),
  (false, 294, 3, sGoto 231),
  (false, 297, 1, sLdI 1),
  (false, 298, 1, sLdA 0),
  (false, 299, 3, sGet 40 (fun w i M => aR (66, 0, 0))),
  (false, 302, 2, sC 24),
  (false, 304, 1, sLdI 2),
  (false, 305, 1, sBin (fun x y => x * y)),
  (false, 306, 1, sLdI 3),
  (false, 307, 1, sBin (fun x y => x + y)),
  (false, 308, 1, sIald 66 96),
  (false, 309, 1, sBin (fun x y => x * y)),
  (false, 310, 2, sLdI 4),
  (false, 312, 1, sBin0 (fun x y => x / y)),
  (false, 313, 2, sLdI 8),
  (false, 315, 2, sLdI 6),
  (false, 317, 3, sCmpGe 324),
  (false, 320, 1, sC 1),
  (false, 321, 3, sGoto 325),
  (false, 324, 1, sC 0),
  (false, 325, 1, sBin (fun x y => x + y)),
  (false, 326, 1, sRetI)]
theorem oK_parts {E : EV} (hsd : E.2.2.2 = 1) (l : Launch) : AllOK E l 3 "FreeLancesModel" prog_13_method_88_code 11 (some .int) outI (cK_parts) := by
  refine ak (ok_iload_n (k := 1) rfl (by decide +kernel)) ?_
  refine ak (ok_iconst (n := 0) (by decide) (by decide +kernel)) ?_
  refine ak (ok_ldc tw1328 (by decide +kernel)) ?_
  refine ak (ok_invS (kK_in hsd l) iK_in tw1330 (by decide) tw1329 (by decide +kernel)) ?_
  refine ak (ok_if_eq (off := 10) (by decide) (by decide +kernel)) ?_
  refine ak (ok_iload_n (k := 2) rfl (by decide +kernel)) ?_
  refine ak (ok_invS (kK_isSheet hsd l) iK_isSheet tw1625 (by decide) tw1624 (by decide +kernel)) ?_
  refine ak (ok_if_ne (off := 9) (by decide) (by decide +kernel)) ?_
  refine ak (ok_aload_n (k := 0) rfl (by decide +kernel)) ?_
  refine ak (ok_iconst (n := 1) (by decide) (by decide +kernel)) ?_
  refine ak (ok_invV (r := 40) (kK_finds hsd l) qK_finds ck11 kd40 iK_finds tw1334 tw37 (by decide) tw1332 (by decide +kernel)) ?_
  refine ak (ok_ireturn rfl (by decide +kernel)) ?_
  refine ak (ok_aload_n (k := 0) rfl (by decide +kernel)) ?_
  refine ak (ok_get (k := 23) ck11 kd40 (by decide) (fun _ _ _ => rfl) (vf_40_23 hsd) tw1265 (by decide +kernel)) ?_
  refine ak (ok_iload_n (k := 2) rfl (by decide +kernel)) ?_
  refine ak (ok_iald kd64 (by decide) (by decide +kernel)) ?_
  refine ak (ok_if_ne (off := 9) (by decide) (by decide +kernel)) ?_
  refine ak (ok_aload_n (k := 0) rfl (by decide +kernel)) ?_
  refine ak (ok_iconst (n := 2) (by decide) (by decide +kernel)) ?_
  refine ak (ok_invV (r := 40) (kK_finds hsd l) qK_finds ck11 kd40 iK_finds tw1334 tw37 (by decide) tw1332 (by decide +kernel)) ?_
  refine ak (ok_ireturn rfl (by decide +kernel)) ?_
  refine ak (ok_iconst (n := 0) (by decide) (by decide +kernel)) ?_
  refine ak (ok_istore (by decide) (by decide +kernel)) ?_
  refine ak (ok_iconst (n := 1) (by decide) (by decide +kernel)) ?_
  refine ak (ok_istore (by decide) (by decide +kernel)) ?_
  refine ak (ok_iconst (n := 0) (by decide) (by decide +kernel)) ?_
  refine ak (ok_istore (by decide) (by decide +kernel)) ?_
  refine ak (ok_iload (by decide +kernel)) ?_
  refine ak (ok_aload_n (k := 0) rfl (by decide +kernel)) ?_
  refine ak (ok_get (k := 24) ck11 kd40 (by decide) (fun _ _ _ => rfl) (vf_40_24 hsd) tw1266 (by decide +kernel)) ?_
  refine ak (ok_iload_n (k := 2) rfl (by decide +kernel)) ?_
  refine ak (ok_iald kd65 (by decide) (by decide +kernel)) ?_
  refine ak (ok_icmp_ge (off := 69) (by decide) (by decide +kernel)) ?_
  refine ak (ok_iload (by decide +kernel)) ?_
  refine ak (ok_if_eq (off := 29) (by decide) (by decide +kernel)) ?_
  refine ak (ok_aload_n (k := 0) rfl (by decide +kernel)) ?_
  refine ak (ok_get (k := 25) ck11 kd40 (by decide) (fun _ _ _ => rfl) (vf_40_25 hsd) tw1267 (by decide +kernel)) ?_
  refine ak (ok_bipush (n := 24) (by decide) (by decide +kernel)) ?_
  refine ak (ok_iload_n (k := 2) rfl (by decide +kernel)) ?_
  refine ak (ok_imul (by decide +kernel)) ?_
  refine ak (ok_iload (by decide +kernel)) ?_
  refine ak (ok_iadd (by decide +kernel)) ?_
  refine ak (ok_iald kd66 (by decide) (by decide +kernel)) ?_
  refine ak (ok_iconst (n := 0) (by decide) (by decide +kernel)) ?_
  refine ak (ok_sipush (n := 999) (by decide) (by decide +kernel)) ?_
  refine ak (ok_invS (kK_in hsd l) iK_in tw1330 (by decide) tw1329 (by decide +kernel)) ?_
  refine ak (ok_if_eq (off := 7) (by decide) (by decide +kernel)) ?_
  refine ak (ok_iconst (n := 1) (by decide) (by decide +kernel)) ?_
  refine ak (ok_goto (off := 4) (by decide) (by decide +kernel)) ?_
  refine ak (ok_iconst (n := 0) (by decide) (by decide +kernel)) ?_
  refine ak (ok_istore (by decide) (by decide +kernel)) ?_
  refine ak (ok_iload (by decide +kernel)) ?_
  refine ak (ok_iload (by decide +kernel)) ?_
  refine ak (ok_if_eq (off := 18) (by decide) (by decide +kernel)) ?_
  refine ak (ok_aload_n (k := 0) rfl (by decide +kernel)) ?_
  refine ak (ok_get (k := 25) ck11 kd40 (by decide) (fun _ _ _ => rfl) (vf_40_25 hsd) tw1267 (by decide +kernel)) ?_
  refine ak (ok_bipush (n := 24) (by decide) (by decide +kernel)) ?_
  refine ak (ok_iload_n (k := 2) rfl (by decide +kernel)) ?_
  refine ak (ok_imul (by decide +kernel)) ?_
  refine ak (ok_iload (by decide +kernel)) ?_
  refine ak (ok_iadd (by decide +kernel)) ?_
  refine ak (ok_iald kd66 (by decide) (by decide +kernel)) ?_
  refine ak (ok_goto (off := 4) (by decide) (by decide +kernel)) ?_
  refine ak (ok_iconst (n := 0) (by decide) (by decide +kernel)) ?_
  refine ak (ok_iadd (by decide +kernel)) ?_
  refine ak (ok_istore (by decide) (by decide +kernel)) ?_
  refine ak (ok_iinc (n := 1) (by decide) (by decide) (by decide +kernel)) ?_
  refine ak (ok_goto (off := (-74)) (by decide) (by decide +kernel)) ?_
  refine ak (ok_iload (by decide +kernel)) ?_
  refine ak (ok_if_eq (off := 8) (by decide) (by decide +kernel)) ?_
  refine ak (ok_iload (by decide +kernel)) ?_
  refine ak (ok_if_ne (off := 9) (by decide) (by decide +kernel)) ?_
  refine ak (ok_aload_n (k := 0) rfl (by decide +kernel)) ?_
  refine ak (ok_iconst (n := 5) (by decide) (by decide +kernel)) ?_
  refine ak (ok_invV (r := 40) (kK_finds hsd l) qK_finds ck11 kd40 iK_finds tw1334 tw37 (by decide) tw1332 (by decide +kernel)) ?_
  refine ak (ok_ireturn rfl (by decide +kernel)) ?_
  refine ak (ok_iload_n (k := 3) rfl (by decide +kernel)) ?_
  refine ak (ok_iconst (n := 0) (by decide) (by decide +kernel)) ?_
  refine ak (ok_aload_n (k := 0) rfl (by decide +kernel)) ?_
  refine ak (ok_get (k := 24) ck11 kd40 (by decide) (fun _ _ _ => rfl) (vf_40_24 hsd) tw1266 (by decide +kernel)) ?_
  refine ak (ok_iload_n (k := 2) rfl (by decide +kernel)) ?_
  refine ak (ok_iald kd65 (by decide) (by decide +kernel)) ?_
  refine ak (ok_iconst (n := 1) (by decide) (by decide +kernel)) ?_
  refine ak (ok_isub (by decide +kernel)) ?_
  refine ak (ok_invS (kK_in hsd l) iK_in tw1330 (by decide) tw1329 (by decide +kernel)) ?_
  refine ak (ok_if_ne (off := 9) (by decide) (by decide +kernel)) ?_
  refine ak (ok_aload_n (k := 0) rfl (by decide +kernel)) ?_
  refine ak (ok_iconst (n := 1) (by decide) (by decide +kernel)) ?_
  refine ak (ok_invV (r := 40) (kK_finds hsd l) qK_finds ck11 kd40 iK_finds tw1334 tw37 (by decide) tw1332 (by decide +kernel)) ?_
  refine ak (ok_ireturn rfl (by decide +kernel)) ?_
  refine ak (ok_iload_n (k := 1) rfl (by decide +kernel)) ?_
  refine ak (ok_istore (by decide) (by decide +kernel)) ?_
  refine ak (ok_iconst (n := 0) (by decide) (by decide +kernel)) ?_
  refine ak (ok_istore (by decide) (by decide +kernel)) ?_
  refine ak (ok_iload (by decide +kernel)) ?_
  refine ak (ok_aload_n (k := 0) rfl (by decide +kernel)) ?_
  refine ak (ok_get (k := 24) ck11 kd40 (by decide) (fun _ _ _ => rfl) (vf_40_24 hsd) tw1266 (by decide +kernel)) ?_
  refine ak (ok_iload_n (k := 2) rfl (by decide +kernel)) ?_
  refine ak (ok_iald kd65 (by decide) (by decide +kernel)) ?_
  refine ak (ok_icmp_ge (off := 31) (by decide) (by decide +kernel)) ?_
  refine ak (ok_iload (by decide +kernel)) ?_
  refine ak (ok_iload_n (k := 1) rfl (by decide +kernel)) ?_
  refine ak (ok_aload_n (k := 0) rfl (by decide +kernel)) ?_
  refine ak (ok_get (k := 25) ck11 kd40 (by decide) (fun _ _ _ => rfl) (vf_40_25 hsd) tw1267 (by decide +kernel)) ?_
  refine ak (ok_bipush (n := 24) (by decide) (by decide +kernel)) ?_
  refine ak (ok_iload_n (k := 2) rfl (by decide +kernel)) ?_
  refine ak (ok_imul (by decide +kernel)) ?_
  refine ak (ok_iload (by decide +kernel)) ?_
  refine ak (ok_iadd (by decide +kernel)) ?_
  refine ak (ok_iald kd66 (by decide) (by decide +kernel)) ?_
  refine ak (ok_imul (by decide +kernel)) ?_
  refine ak (ok_iload (by decide +kernel)) ?_
  refine ak (ok_idiv (by decide +kernel)) ?_
  refine ak (ok_isub (by decide +kernel)) ?_
  refine ak (ok_istore (by decide) (by decide +kernel)) ?_
  refine ak (ok_iinc (n := 1) (by decide) (by decide) (by decide +kernel)) ?_
  refine ak (ok_goto (off := (-36)) (by decide) (by decide +kernel)) ?_
  refine ak (ok_iload_n (k := 1) rfl (by decide +kernel)) ?_
  refine ak (ok_aload_n (k := 0) rfl (by decide +kernel)) ?_
  refine ak (ok_get (k := 25) ck11 kd40 (by decide) (fun _ _ _ => rfl) (vf_40_25 hsd) tw1267 (by decide +kernel)) ?_
  refine ak (ok_bipush (n := 24) (by decide) (by decide +kernel)) ?_
  refine ak (ok_iload_n (k := 2) rfl (by decide +kernel)) ?_
  refine ak (ok_imul (by decide +kernel)) ?_
  refine ak (ok_iload_n (k := 3) rfl (by decide +kernel)) ?_
  refine ak (ok_iadd (by decide +kernel)) ?_
  refine ak (ok_iald kd66 (by decide) (by decide +kernel)) ?_
  refine ak (ok_imul (by decide +kernel)) ?_
  refine ak (ok_iload (by decide +kernel)) ?_
  refine ak (ok_irem (by decide +kernel)) ?_
  refine ak (ok_istore (by decide) (by decide +kernel)) ?_
  refine ak (ok_iconst (n := 0) (by decide) (by decide +kernel)) ?_
  refine ak (ok_istore (by decide) (by decide +kernel)) ?_
  refine ak (ok_iconst (n := 0) (by decide) (by decide +kernel)) ?_
  refine ak (ok_istore (by decide) (by decide +kernel)) ?_
  refine ak (ok_iload (by decide +kernel)) ?_
  refine ak (ok_aload_n (k := 0) rfl (by decide +kernel)) ?_
  refine ak (ok_get (k := 24) ck11 kd40 (by decide) (fun _ _ _ => rfl) (vf_40_24 hsd) tw1266 (by decide +kernel)) ?_
  refine ak (ok_iload_n (k := 2) rfl (by decide +kernel)) ?_
  refine ak (ok_iald kd65 (by decide) (by decide +kernel)) ?_
  refine ak (ok_icmp_ge (off := 58) (by decide) (by decide +kernel)) ?_
  refine ak (ok_iload_n (k := 1) rfl (by decide +kernel)) ?_
  refine ak (ok_aload_n (k := 0) rfl (by decide +kernel)) ?_
  refine ak (ok_get (k := 25) ck11 kd40 (by decide) (fun _ _ _ => rfl) (vf_40_25 hsd) tw1267 (by decide +kernel)) ?_
  refine ak (ok_bipush (n := 24) (by decide) (by decide +kernel)) ?_
  refine ak (ok_iload_n (k := 2) rfl (by decide +kernel)) ?_
  refine ak (ok_imul (by decide +kernel)) ?_
  refine ak (ok_iload (by decide +kernel)) ?_
  refine ak (ok_iadd (by decide +kernel)) ?_
  refine ak (ok_iald kd66 (by decide) (by decide +kernel)) ?_
  refine ak (ok_imul (by decide +kernel)) ?_
  refine ak (ok_iload (by decide +kernel)) ?_
  refine ak (ok_irem (by decide +kernel)) ?_
  refine ak (ok_istore (by decide) (by decide +kernel)) ?_
  refine ak (ok_iload (by decide +kernel)) ?_
  refine ak (ok_iload (by decide +kernel)) ?_
  refine ak (ok_iload (by decide +kernel)) ?_
  refine ak (ok_icmp_gt (off := 16) (by decide) (by decide +kernel)) ?_
  refine ak (ok_iload (by decide +kernel)) ?_
  refine ak (ok_iload (by decide +kernel)) ?_
  refine ak (ok_icmp_ne (off := 13) (by decide) (by decide +kernel)) ?_
  refine ak (ok_iload (by decide +kernel)) ?_
  refine ak (ok_iload_n (k := 3) rfl (by decide +kernel)) ?_
  refine ak (ok_icmp_ge (off := 7) (by decide) (by decide +kernel)) ?_
  refine ak (ok_iconst (n := 1) (by decide) (by decide +kernel)) ?_
  refine ak (ok_goto (off := 4) (by decide) (by decide +kernel)) ?_
  refine ak (ok_iconst (n := 0) (by decide) (by decide +kernel)) ?_
  refine ak (ok_iadd (by decide +kernel)) ?_
  refine ak (ok_istore (by decide) (by decide +kernel)) ?_
  refine ak (ok_iinc (n := 1) (by decide) (by decide) (by decide +kernel)) ?_
  refine ak (ok_goto (off := (-63)) (by decide) (by decide +kernel)) ?_
  refine ak (ok_iload_n (k := 1) rfl (by decide +kernel)) ?_
  refine ak (ok_aload_n (k := 0) rfl (by decide +kernel)) ?_
  refine ak (ok_get (k := 25) ck11 kd40 (by decide) (fun _ _ _ => rfl) (vf_40_25 hsd) tw1267 (by decide +kernel)) ?_
  refine ak (ok_bipush (n := 24) (by decide) (by decide +kernel)) ?_
  refine ak (ok_iload_n (k := 2) rfl (by decide +kernel)) ?_
  refine ak (ok_imul (by decide +kernel)) ?_
  refine ak (ok_iload_n (k := 3) rfl (by decide +kernel)) ?_
  refine ak (ok_iadd (by decide +kernel)) ?_
  refine ak (ok_iald kd66 (by decide) (by decide +kernel)) ?_
  refine ak (ok_imul (by decide +kernel)) ?_
  refine ak (ok_iload (by decide +kernel)) ?_
  refine ak (ok_idiv (by decide +kernel)) ?_
  refine ak (ok_iload (by decide +kernel)) ?_
  refine ak (ok_iload (by decide +kernel)) ?_
  refine ak (ok_icmp_ge (off := 7) (by decide) (by decide +kernel)) ?_
  refine ak (ok_iconst (n := 1) (by decide) (by decide +kernel)) ?_
  refine ak (ok_goto (off := 4) (by decide) (by decide +kernel)) ?_
  refine ak (ok_iconst (n := 0) (by decide) (by decide +kernel)) ?_
  refine ak (ok_iadd (by decide +kernel)) ?_
  refine ak (ok_ireturn rfl (by decide +kernel)) ?_
  exact trivial
def KK_parts_231 (j231 : Int32 → Int32 → Int32 → Int32 → Int32 → Int32 → Int32 → Int32 → Mem → Option (Int32 × Mem)) : Jm (Int32 × Mem) := fun t als st M =>
  if t = 231 then (match als, st with
  | [.inr (.inr (.inl (al0, bl0, cl0))), .inl x1, .inl x2, .inl x3, .inl x4, _, .inl x6, .inl x7, .inl x8, .inl x9, _], [] => if al0 = 40 ∧ bl0 = 0 ∧ cl0 = 0 then j231 x1 x2 x3 x4 x6 x7 x8 x9 M else none
  | _, _ => none) else
  none
set_option maxRecDepth 1000000 in
theorem eK_parts_231 (j231 : Int32 → Int32 → Int32 → Int32 → Int32 → Int32 → Int32 → Int32 → Mem → Option (Int32 × Mem)) (x1 : Int32) (x2 : Int32) (x3 : Int32) (x4 : Int32) (x6 : Int32) (x7 : Int32) (x8 : Int32) (x9 : Int32) (M : Mem) (u5 u10 : AV) : run (cK_parts) (KK_parts_231 j231) rtI 400 (seek (cK_parts) 231) [aR (40, 0, 0), aI x1, aI x2, aI x3, aI x4, u5, aI x6, aI x7, aI x8, aI x9, u10] [] M = mK_parts_231b j231 x1 x2 x3 x4 x6 x7 x8 x9 M := id rfl
set_option maxRecDepth 100000 in
theorem lK_parts_231 {E : EV} {l : Launch} {p : Program} {e : Env} {s : State} {m : MethodId} {args : Array Value} {below : List Frame} {meth : Method} {c : Code} (A : AllOK E l 3 "FreeLancesModel" prog_13_method_88_code 11 (some .int) outI (cK_parts)) (C : Cx E p s m args meth c "FreeLancesModel" prog_13_method_88_code 11 (some .int)) : ∀ (n : Nat), ∀ (x1 : Int32) (x2 : Int32) (x3 : Int32) (x4 : Int32) (x6 : Int32) (x7 : Int32) (x8 : Int32) (x9 : Int32) (M : Mem) (res : (Int32 × Mem)), mK_parts_231 n x1 x2 x3 x4 x6 x7 x8 x9 M = some res → ∀ (u5 u10 : AV), Wm E p l e 3 s m args below meth c 11 231 [aR (40, 0, 0), aI x1, aI x2, aI x3, aI x4, u5, aI x6, aI x7, aI x8, aI x9, u10] [] M (outI res).1 (outI res).2 := by
  intro n
  induction n with
  | zero => intro _ _ _ _ _ _ _ _ M res h; cases h
  | succ n ih =>
    intro x1 x2 x3 x4 x6 x7 x8 x9 M res h u5 u10
    refine run_at C A rfl hrtI (n := 400) ((eK_parts_231 (mK_parts_231 n) x1 x2 x3 x4 x6 x7 x8 x9 M u5 u10).trans h) ?_
    intro t als st M hk
    unfold KK_parts_231 at hk
    split at hk
    · rename_i ht
      subst ht
      split at hk
      · split at hk
        · rename_i hc
          obtain ⟨rfl, rfl, rfl⟩ := hc
          exact ih _ _ _ _ _ _ _ _ _ _ hk _ _
        · cases hk
      · cases hk
    cases hk
def KK_parts_168 (j168 : Int32 → Int32 → Int32 → Int32 → Int32 → Int32 → Mem → Option (Int32 × Mem)) (j231 : Int32 → Int32 → Int32 → Int32 → Int32 → Int32 → Int32 → Int32 → Mem → Option (Int32 × Mem)) : Jm (Int32 × Mem) := fun t als st M =>
  if t = 168 then (match als, st with
  | [.inr (.inr (.inl (al0, bl0, cl0))), .inl x1, .inl x2, .inl x3, .inl x4, _, .inl x6, .inl x7, _, _, _], [] => if al0 = 40 ∧ bl0 = 0 ∧ cl0 = 0 then j168 x1 x2 x3 x4 x6 x7 M else none
  | _, _ => none) else
  if t = 231 then (match als, st with
  | [.inr (.inr (.inl (al0, bl0, cl0))), .inl x1, .inl x2, .inl x3, .inl x4, _, .inl x6, .inl x7, .inl x8, .inl x9, _], [] => if al0 = 40 ∧ bl0 = 0 ∧ cl0 = 0 then j231 x1 x2 x3 x4 x6 x7 x8 x9 M else none
  | _, _ => none) else
  none
set_option maxRecDepth 1000000 in
theorem eK_parts_168 (j168 : Int32 → Int32 → Int32 → Int32 → Int32 → Int32 → Mem → Option (Int32 × Mem)) (j231 : Int32 → Int32 → Int32 → Int32 → Int32 → Int32 → Int32 → Int32 → Mem → Option (Int32 × Mem)) (x1 : Int32) (x2 : Int32) (x3 : Int32) (x4 : Int32) (x6 : Int32) (x7 : Int32) (M : Mem) (u5 u8 u9 u10 : AV) : run (cK_parts) (KK_parts_168 j168 j231) rtI 400 (seek (cK_parts) 168) [aR (40, 0, 0), aI x1, aI x2, aI x3, aI x4, u5, aI x6, aI x7, u8, u9, u10] [] M = mK_parts_168b j168 j231 x1 x2 x3 x4 x6 x7 M := id rfl
set_option maxRecDepth 100000 in
theorem lK_parts_168 {E : EV} {l : Launch} {p : Program} {e : Env} {s : State} {m : MethodId} {args : Array Value} {below : List Frame} {meth : Method} {c : Code} (A : AllOK E l 3 "FreeLancesModel" prog_13_method_88_code 11 (some .int) outI (cK_parts)) (C : Cx E p s m args meth c "FreeLancesModel" prog_13_method_88_code 11 (some .int)) : ∀ (n : Nat), ∀ (x1 : Int32) (x2 : Int32) (x3 : Int32) (x4 : Int32) (x6 : Int32) (x7 : Int32) (M : Mem) (res : (Int32 × Mem)), mK_parts_168 n x1 x2 x3 x4 x6 x7 M = some res → ∀ (u5 u8 u9 u10 : AV), Wm E p l e 3 s m args below meth c 11 168 [aR (40, 0, 0), aI x1, aI x2, aI x3, aI x4, u5, aI x6, aI x7, u8, u9, u10] [] M (outI res).1 (outI res).2 := by
  intro n
  induction n with
  | zero => intro _ _ _ _ _ _ M res h; cases h
  | succ n ih =>
    intro x1 x2 x3 x4 x6 x7 M res h u5 u8 u9 u10
    refine run_at C A rfl hrtI (n := 400) ((eK_parts_168 (mK_parts_168 n) (mK_parts_231 fuel) x1 x2 x3 x4 x6 x7 M u5 u8 u9 u10).trans h) ?_
    intro t als st M hk
    unfold KK_parts_168 at hk
    split at hk
    · rename_i ht
      subst ht
      split at hk
      · split at hk
        · rename_i hc
          obtain ⟨rfl, rfl, rfl⟩ := hc
          exact ih _ _ _ _ _ _ _ _ hk _ _ _ _
        · cases hk
      · cases hk
    split at hk
    · rename_i ht
      subst ht
      split at hk
      · split at hk
        · rename_i hc
          obtain ⟨rfl, rfl, rfl⟩ := hc
          exact lK_parts_231 A C _ _ _ _ _ _ _ _ _ _ _ hk _ _
        · cases hk
      · cases hk
    cases hk
def KK_parts_47 (j47 : Int32 → Int32 → Int32 → Int32 → Int32 → Int32 → Mem → Option (Int32 × Mem)) (j168 : Int32 → Int32 → Int32 → Int32 → Int32 → Int32 → Mem → Option (Int32 × Mem)) : Jm (Int32 × Mem) := fun t als st M =>
  if t = 47 then (match als, st with
  | [.inr (.inr (.inl (al0, bl0, cl0))), .inl x1, .inl x2, .inl x3, .inl x4, .inl x5, .inl x6, _, _, _, _], [] => if al0 = 40 ∧ bl0 = 0 ∧ cl0 = 0 then j47 x1 x2 x3 x4 x5 x6 M else none
  | _, _ => none) else
  if t = 168 then (match als, st with
  | [.inr (.inr (.inl (al0, bl0, cl0))), .inl x1, .inl x2, .inl x3, .inl x4, _, .inl x6, .inl x7, _, _, _], [] => if al0 = 40 ∧ bl0 = 0 ∧ cl0 = 0 then j168 x1 x2 x3 x4 x6 x7 M else none
  | _, _ => none) else
  none
set_option maxRecDepth 1000000 in
theorem eK_parts_47 (j47 : Int32 → Int32 → Int32 → Int32 → Int32 → Int32 → Mem → Option (Int32 × Mem)) (j168 : Int32 → Int32 → Int32 → Int32 → Int32 → Int32 → Mem → Option (Int32 × Mem)) (x1 : Int32) (x2 : Int32) (x3 : Int32) (x4 : Int32) (x5 : Int32) (x6 : Int32) (M : Mem) (u7 u8 u9 u10 : AV) : run (cK_parts) (KK_parts_47 j47 j168) rtI 400 (seek (cK_parts) 47) [aR (40, 0, 0), aI x1, aI x2, aI x3, aI x4, aI x5, aI x6, u7, u8, u9, u10] [] M = mK_parts_47b j47 j168 x1 x2 x3 x4 x5 x6 M := id rfl
set_option maxRecDepth 100000 in
theorem lK_parts_47 {E : EV} {l : Launch} {p : Program} {e : Env} {s : State} {m : MethodId} {args : Array Value} {below : List Frame} {meth : Method} {c : Code} (A : AllOK E l 3 "FreeLancesModel" prog_13_method_88_code 11 (some .int) outI (cK_parts)) (C : Cx E p s m args meth c "FreeLancesModel" prog_13_method_88_code 11 (some .int)) : ∀ (n : Nat), ∀ (x1 : Int32) (x2 : Int32) (x3 : Int32) (x4 : Int32) (x5 : Int32) (x6 : Int32) (M : Mem) (res : (Int32 × Mem)), mK_parts_47 n x1 x2 x3 x4 x5 x6 M = some res → ∀ (u7 u8 u9 u10 : AV), Wm E p l e 3 s m args below meth c 11 47 [aR (40, 0, 0), aI x1, aI x2, aI x3, aI x4, aI x5, aI x6, u7, u8, u9, u10] [] M (outI res).1 (outI res).2 := by
  intro n
  induction n with
  | zero => intro _ _ _ _ _ _ M res h; cases h
  | succ n ih =>
    intro x1 x2 x3 x4 x5 x6 M res h u7 u8 u9 u10
    refine run_at C A rfl hrtI (n := 400) ((eK_parts_47 (mK_parts_47 n) (mK_parts_168 fuel) x1 x2 x3 x4 x5 x6 M u7 u8 u9 u10).trans h) ?_
    intro t als st M hk
    unfold KK_parts_47 at hk
    split at hk
    · rename_i ht
      subst ht
      split at hk
      · split at hk
        · rename_i hc
          obtain ⟨rfl, rfl, rfl⟩ := hc
          exact ih _ _ _ _ _ _ _ _ hk _ _ _ _
        · cases hk
      · cases hk
    split at hk
    · rename_i ht
      subst ht
      split at hk
      · split at hk
        · rename_i hc
          obtain ⟨rfl, rfl, rfl⟩ := hc
          exact lK_parts_168 A C _ _ _ _ _ _ _ _ _ hk _ _ _ _
        · cases hk
      · cases hk
    cases hk
def KK_parts (j47 : Int32 → Int32 → Int32 → Int32 → Int32 → Int32 → Mem → Option (Int32 × Mem)) : Jm (Int32 × Mem) := fun t als st M =>
  if t = 47 then (match als, st with
  | [.inr (.inr (.inl (al0, bl0, cl0))), .inl x1, .inl x2, .inl x3, .inl x4, .inl x5, .inl x6, _, _, _, _], [] => if al0 = 40 ∧ bl0 = 0 ∧ cl0 = 0 then j47 x1 x2 x3 x4 x5 x6 M else none
  | _, _ => none) else
  none
set_option maxRecDepth 1000000 in
theorem eK_parts (j47 : Int32 → Int32 → Int32 → Int32 → Int32 → Int32 → Mem → Option (Int32 × Mem)) (x1 : Int32) (x2 : Int32) (x3 : Int32) (M : Mem) : run (cK_parts) (KK_parts j47) rtI 400 (seek (cK_parts) 0) [aR (40, 0, 0), aI x1, aI x2, aI x3, aU, aU, aU, aU, aU, aU, aU] [] M = mK_partsb j47 x1 x2 x3 M := id rfl
set_option maxRecDepth 100000 in
theorem lK_parts {E : EV} {l : Launch} {p : Program} {e : Env} {s : State} {m : MethodId} {args : Array Value} {below : List Frame} {meth : Method} {c : Code} (A : AllOK E l 3 "FreeLancesModel" prog_13_method_88_code 11 (some .int) outI (cK_parts)) (C : Cx E p s m args meth c "FreeLancesModel" prog_13_method_88_code 11 (some .int)) : ∀ (x1 : Int32) (x2 : Int32) (x3 : Int32) (M : Mem) (res : (Int32 × Mem)), mK_parts x1 x2 x3 M = some res → Wm E p l e 3 s m args below meth c 11 0 [aR (40, 0, 0), aI x1, aI x2, aI x3, aU, aU, aU, aU, aU, aU, aU] [] M (outI res).1 (outI res).2 := by
  intro x1 x2 x3 M res h
  refine run_at C A rfl hrtI (n := 400) ((eK_parts (mK_parts_47 fuel) x1 x2 x3 M).trans h) ?_
  intro t als st M hk
  unfold KK_parts at hk
  split at hk
  · rename_i ht
    subst ht
    split at hk
    · split at hk
      · rename_i hc
        obtain ⟨rfl, rfl, rfl⟩ := hc
        exact lK_parts_47 A C _ _ _ _ _ _ _ _ _ hk _ _ _ _
      · cases hk
    · cases hk
  cases hk
def dK_parts {β : Type} : Den β := fun as M k => match as with
  | [.inr (.inr (.inl (al0, bl0, cl0))), .inl x1, .inl x2, .inl x3] => if al0 = 40 ∧ bl0 = 0 ∧ cl0 = 0 then (mK_parts x1 x2 x3 M).bind fun q => k (aI q.1) q.2 else none
  | _ => none
theorem wK_parts {E : EV} (hsd : E.2.2.2 = 1) (l : Launch) (x1 : Int32) (x2 : Int32) (x3 : Int32) (M : Mem) (q : (Int32 × Mem)) (hq : mK_parts x1 x2 x3 M = some q) : Con E l 3 yK_parts prog_13_method_88_code 11 (some .int) [aR (40, 0, 0), aI x1, aI x2, aI x3] M (outI q).1 (outI q).2 := by
  refine con_of iK_parts (Nat.le_of_ble_eq_true rfl) ?_
  intro p e s m args below meth c C
  exact lK_parts (oK_parts hsd l) C x1 x2 x3 M _ hq
theorem kK_parts {E : EV} (hsd : E.2.2.2 = 1) (l : Launch) {β : Type} : DenOK E l 3 yK_parts prog_13_method_88_code 11 (some .int) true (dK_parts (β := β)) := by
  intro as M k res h
  unfold dK_parts at h
  split at h
  ·
    split at h
    · rename_i hc
      obtain ⟨rfl, rfl, rfl⟩ := hc
      obtain ⟨q, hq, hk⟩ := Option.bind_eq_some_iff.mp h
      exact ⟨aI q.1, q.2, hk, rfl, wK_parts hsd l _ _ _ M q hq⟩
    · cases h
  · cases h
theorem qK_parts {β : Type} : RecOK 40 (dK_parts (β := β)) := by
  intro as M k res h
  unfold dK_parts at h
  split at h
  ·
    split at h
    · rename_i hc
      obtain ⟨rfl, rfl, rfl⟩ := hc
      exact ⟨_, _, _, rfl⟩
    · cases h
  · cases h
/-! ===== FreeLancesModel.share(I)I ===== -/
abbrev yK_share : MethodName := ⟨"FreeLancesModel", "share", "(I)I"⟩
theorem iK_share : MI yK_share prog_13_method_89_code 4 (some .int) 1 := ⟨tw1670, tw108, ⟨by decide, by decide⟩, by decide +kernel, by decide, by decide⟩
def cK_share : List (Ent (Int32 × Mem)) := [(false, 0, 1, sLdI 1),
  (false, 1, 1, sC 0),
  (false, 2, 2, sC 99999),
  (false, 4, 3, sInv 3 true dK_in),
  (false, 7, 3, sIfNe 16),
  (false, 10, 1, sLdA 0),
  (false, 11, 1, sC 1),
  (false, 12, 3, sInv 2 true dK_finds),
  (false, 15, 1, sRetI),
  (false, 16, 1, sLdA 0),
  (false, 17, 1, sC 3),
  (false, 18, 1, sLdA 0),
  (false, 19, 3, sGet 40 (fun w i M => aR (41, 0, 0))),
  (false, 22, 2, sC 6),
  (false, 24, 1, sIald 41 1502),
  (false, 25, 3, sInv 3 true dK_inForce),
  (false, 28, 1, sStI 2),
  (false, 29, 1, sLdI 2),
  (false, 30, 3, sIfGe 39),
  (false, 33, 1, sLdI 1),
  (false, 34, 1, sC 3),
  (false, 35, 1, sBin0 (fun x y => x / y)),
  (false, 36, 3, sGoto 47),
  (false, 39, 1, sLdA 0),
  (false, 40, 1, sLdI 2),
  (false, 41, 1, sLdI 1),
  (false, 42, 1, sC 0),
  (false, 43, 1, sC 0),
  (false, 44, 3, sInv 5 true dK_comesTo),
  (false, 47, 1, sStI 3),
  (false, 48, 1, sLdI 3),
  (false, 49, 3, sIfGe 56),
  (false, 52, 1, sC 0),
  (false, 53, 3, sGoto 66),
  (false, 56, 1, sLdI 3),
  (false, 57, 1, sLdI 1),
  (false, 58, 3, sCmpLe 65),
  (false, 61, 1, sLdI 1),
  (false, 62, 3, sGoto 66),
  (false, 65, 1, sLdI 3),
  (false, 66, 1, sRetI)]
theorem oK_share {E : EV} (hsd : E.2.2.2 = 1) (l : Launch) : AllOK E l 3 "FreeLancesModel" prog_13_method_89_code 4 (some .int) outI (cK_share) := by
  refine ak (ok_iload_n (k := 1) rfl (by decide +kernel)) ?_
  refine ak (ok_iconst (n := 0) (by decide) (by decide +kernel)) ?_
  refine ak (ok_ldc tw1328 (by decide +kernel)) ?_
  refine ak (ok_invS (kK_in hsd l) iK_in tw1330 (by decide) tw1329 (by decide +kernel)) ?_
  refine ak (ok_if_ne (off := 9) (by decide) (by decide +kernel)) ?_
  refine ak (ok_aload_n (k := 0) rfl (by decide +kernel)) ?_
  refine ak (ok_iconst (n := 1) (by decide) (by decide +kernel)) ?_
  refine ak (ok_invV (r := 40) (kK_finds hsd l) qK_finds ck11 kd40 iK_finds tw1334 tw37 (by decide) tw1332 (by decide +kernel)) ?_
  refine ak (ok_ireturn rfl (by decide +kernel)) ?_
  refine ak (ok_aload_n (k := 0) rfl (by decide +kernel)) ?_
  refine ak (ok_iconst (n := 3) (by decide) (by decide +kernel)) ?_
  refine ak (ok_aload_n (k := 0) rfl (by decide +kernel)) ?_
  refine ak (ok_get (k := 0) ck11 kd40 (by decide) (fun _ _ _ => rfl) (vf_40_0 hsd) tw1242 (by decide +kernel)) ?_
  refine ak (ok_bipush (n := 6) (by decide) (by decide +kernel)) ?_
  refine ak (ok_iald kd41 (by decide) (by decide +kernel)) ?_
  refine ak (ok_invV (r := 40) (kK_inForce hsd l) qK_inForce ck11 kd40 iK_inForce tw1448 tw53 (by decide) tw1446 (by decide +kernel)) ?_
  refine ak (ok_istore_n (k := 2) rfl (by decide) (by decide +kernel)) ?_
  refine ak (ok_iload_n (k := 2) rfl (by decide +kernel)) ?_
  refine ak (ok_if_ge (off := 9) (by decide) (by decide +kernel)) ?_
  refine ak (ok_iload_n (k := 1) rfl (by decide +kernel)) ?_
  refine ak (ok_iconst (n := 3) (by decide) (by decide +kernel)) ?_
  refine ak (ok_idiv (by decide +kernel)) ?_
  refine ak (ok_goto (off := 11) (by decide) (by decide +kernel)) ?_
  refine ak (ok_aload_n (k := 0) rfl (by decide +kernel)) ?_
  refine ak (ok_iload_n (k := 2) rfl (by decide +kernel)) ?_
  refine ak (ok_iload_n (k := 1) rfl (by decide +kernel)) ?_
  refine ak (ok_iconst (n := 0) (by decide) (by decide +kernel)) ?_
  refine ak (ok_iconst (n := 0) (by decide) (by decide +kernel)) ?_
  refine ak (ok_invV (r := 40) (kK_comesTo hsd l) qK_comesTo ck11 kd40 iK_comesTo tw1452 tw54 (by decide) tw1450 (by decide +kernel)) ?_
  refine ak (ok_istore_n (k := 3) rfl (by decide) (by decide +kernel)) ?_
  refine ak (ok_iload_n (k := 3) rfl (by decide +kernel)) ?_
  refine ak (ok_if_ge (off := 7) (by decide) (by decide +kernel)) ?_
  refine ak (ok_iconst (n := 0) (by decide) (by decide +kernel)) ?_
  refine ak (ok_goto (off := 13) (by decide) (by decide +kernel)) ?_
  refine ak (ok_iload_n (k := 3) rfl (by decide +kernel)) ?_
  refine ak (ok_iload_n (k := 1) rfl (by decide +kernel)) ?_
  refine ak (ok_icmp_le (off := 7) (by decide) (by decide +kernel)) ?_
  refine ak (ok_iload_n (k := 1) rfl (by decide +kernel)) ?_
  refine ak (ok_goto (off := 4) (by decide) (by decide +kernel)) ?_
  refine ak (ok_iload_n (k := 3) rfl (by decide +kernel)) ?_
  refine ak (ok_ireturn rfl (by decide +kernel)) ?_
  exact trivial
set_option maxRecDepth 1000000 in
theorem eK_share (x1 : Int32) (M : Mem) : run (cK_share) (fun _ _ _ _ => none) rtI 400 (seek (cK_share) 0) [aR (40, 0, 0), aI x1, aU, aU] [] M = mK_share x1 M := id rfl
theorem lK_share {E : EV} {l : Launch} {p : Program} {e : Env} {s : State} {m : MethodId} {args : Array Value} {below : List Frame} {meth : Method} {c : Code} (A : AllOK E l 3 "FreeLancesModel" prog_13_method_89_code 4 (some .int) outI (cK_share)) (C : Cx E p s m args meth c "FreeLancesModel" prog_13_method_89_code 4 (some .int)) : ∀ (x1 : Int32) (M : Mem) (res : (Int32 × Mem)), mK_share x1 M = some res → Wm E p l e 3 s m args below meth c 4 0 [aR (40, 0, 0), aI x1, aU, aU] [] M (outI res).1 (outI res).2 := by
  intro x1 M res h
  refine run_at C A rfl hrtI (n := 400) ((eK_share x1 M).trans h) ?_
  intro t als st M hk; cases hk
def dK_share {β : Type} : Den β := fun as M k => match as with
  | [.inr (.inr (.inl (al0, bl0, cl0))), .inl x1] => if al0 = 40 ∧ bl0 = 0 ∧ cl0 = 0 then (mK_share x1 M).bind fun q => k (aI q.1) q.2 else none
  | _ => none
theorem wK_share {E : EV} (hsd : E.2.2.2 = 1) (l : Launch) (x1 : Int32) (M : Mem) (q : (Int32 × Mem)) (hq : mK_share x1 M = some q) : Con E l 3 yK_share prog_13_method_89_code 4 (some .int) [aR (40, 0, 0), aI x1] M (outI q).1 (outI q).2 := by
  refine con_of iK_share (Nat.le_of_ble_eq_true rfl) ?_
  intro p e s m args below meth c C
  exact lK_share (oK_share hsd l) C x1 M _ hq
theorem kK_share {E : EV} (hsd : E.2.2.2 = 1) (l : Launch) {β : Type} : DenOK E l 3 yK_share prog_13_method_89_code 4 (some .int) true (dK_share (β := β)) := by
  intro as M k res h
  unfold dK_share at h
  split at h
  ·
    split at h
    · rename_i hc
      obtain ⟨rfl, rfl, rfl⟩ := hc
      obtain ⟨q, hq, hk⟩ := Option.bind_eq_some_iff.mp h
      exact ⟨aI q.1, q.2, hk, rfl, wK_share hsd l _ M q hq⟩
    · cases h
  · cases h
theorem qK_share {β : Type} : RecOK 40 (dK_share (β := β)) := by
  intro as M k res h
  unfold dK_share at h
  split at h
  ·
    split at h
    · rename_i hc
      obtain ⟨rfl, rfl, rfl⟩ := hc
      exact ⟨_, _, _, rfl⟩
    · cases h
  · cases h
