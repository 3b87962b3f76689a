/-! ===== FreeLancesModel.feed(JI)I ===== -/
abbrev yK_feed : MethodName := ⟨"FreeLancesModel", "feed", "(JI)I"⟩
theorem iK_feed : MI yK_feed prog_13_method_38_code 5 (some .int) 2 := ⟨tw1468, tw108, ⟨by decide, by decide⟩, by decide +kernel, by decide, by decide⟩
def cK_feed : List (Ent (Int32 × Mem)) := [(false, 0, 1, sLdI 3),
  (false, 1, 1, sC 1),
  (false, 2, 2, sC 8),
  (false, 4, 3, sInv 3 true dK_in),
  (false, 7, 3, sIfNe 16),
  (false, 10, 1, sLdA 0),
  (false, 11, 1, sC 1),
  (false, 12, 3, sInv 2 true dK_finds),
  (false, 15, 1, sRetI),
  (false, 16, 1, sLdA 0),
  (false, 17, 3, sGet 40 (fun w i M => aR (41, 0, 0))),
  (false, 20, 2, sC 7),
  (false, 22, 1, sIald 41 1502),
  (false, 23, 1, sLdI 3),
  (false, 24, 1, sBin (fun x y => x + y)),
  (false, 25, 2, sC 50),
  (false, 27, 3, sCmpLe 36),
  (false, 30, 1, sLdA 0),
  (false, 31, 1, sC 4),
  (false, 32, 3, sInv 2 true dK_finds),
  (false, 35, 1, sRetI),
  (false, 36, 1, sC 0),
  (false, 37, 2, sStI 4),
  (true, 39, 2, sLdI 4),
  (false, 41, 1, sLdI 3),
  (false, 42, 3, sCmpGe 90),
  (false, 45, 1, sLdA 0),
  (false, 46, 3, sGet 40 (fun w i M => aR (41, 0, 0))),
  (false, 49, 3, sC 1432),
  (false, 52, 1, sLdA 0),
  (false, 53, 3, sGet 40 (fun w i M => aR (41, 0, 0))),
  (false, 56, 2, sC 7),
  (false, 58, 1, sIald 41 1502),
  (false, 59, 1, sBin (fun x y => x + y)),
  (false, 60, 1, sLdL 1),
  (false, 61, 2, sC 8),
  (false, 63, 2, sLdI 4),
  (false, 65, 1, sBin (fun x y => x * y)),
  (false, 66, 1, sShL (fun x y => x >>> (y.toInt64 &&& 63))),
  (false, 67, 3, sCL 255),
  (false, 70, 1, sBinL (fun x y => x &&& y)),
  (false, 71, 1, sL2I),
  (false, 72, 1, sIast 41 1502),
  (false, 73, 1, sLdA 0),
  (false, 74, 3, sGet 40 (fun w i M => aR (41, 0, 0))),
  (false, 77, 2, sC 7),
  (false, 79, 1, sDup2),
  (false, 80, 1, sIald 41 1502),
  (false, 81, 1, sC 1),
  (false, 82, 1, sBin (fun x y => x + y)),
  (false, 83, 1, sIast 41 1502),
  (false, 84, 3, sInc 4 1),
  (false, 87, 3, sGoto 39),
  (false, 90, 1, sLdA 0),
  (false, 91, 3, sGet 40 (fun w i M => aR (41, 0, 0))),
  (false, 94, 2, sC 7),
  (false, 96, 1, sIald 41 1502),
  (false, 97, 1, sRetI)]
theorem oK_feed {E : EV} (hsd : E.2.2.2 = 1) (l : Launch) : AllOK E l 2 "FreeLancesModel" prog_13_method_38_code 5 (some .int) outI (cK_feed) := by
  refine ak (ok_iload_n (k := 3) rfl (by decide +kernel)) ?_
  refine ak (ok_iconst (n := 1) (by decide) (by decide +kernel)) ?_
  refine ak (ok_bipush (n := 8) (by decide) (by decide +kernel)) ?_
  refine ak (ok_invS (kK_in hsd l) iK_in tw1330 (by decide) tw1329 (by decide +kernel)) ?_
  refine ak (ok_if_ne (off := 9) (by decide) (by decide +kernel)) ?_
  refine ak (ok_aload_n (k := 0) rfl (by decide +kernel)) ?_
  refine ak (ok_iconst (n := 1) (by decide) (by decide +kernel)) ?_
  refine ak (ok_invV (r := 40) (kK_finds hsd l) qK_finds ck11 kd40 iK_finds tw1334 tw37 (by decide) tw1332 (by decide +kernel)) ?_
  refine ak (ok_ireturn rfl (by decide +kernel)) ?_
  refine ak (ok_aload_n (k := 0) rfl (by decide +kernel)) ?_
  refine ak (ok_get (k := 0) ck11 kd40 (by decide) (fun _ _ _ => rfl) (vf_40_0 hsd) tw1242 (by decide +kernel)) ?_
  refine ak (ok_bipush (n := 7) (by decide) (by decide +kernel)) ?_
  refine ak (ok_iald kd41 (by decide) (by decide +kernel)) ?_
  refine ak (ok_iload_n (k := 3) rfl (by decide +kernel)) ?_
  refine ak (ok_iadd (by decide +kernel)) ?_
  refine ak (ok_bipush (n := 50) (by decide) (by decide +kernel)) ?_
  refine ak (ok_icmp_le (off := 9) (by decide) (by decide +kernel)) ?_
  refine ak (ok_aload_n (k := 0) rfl (by decide +kernel)) ?_
  refine ak (ok_iconst (n := 4) (by decide) (by decide +kernel)) ?_
  refine ak (ok_invV (r := 40) (kK_finds hsd l) qK_finds ck11 kd40 iK_finds tw1334 tw37 (by decide) tw1332 (by decide +kernel)) ?_
  refine ak (ok_ireturn rfl (by decide +kernel)) ?_
  refine ak (ok_iconst (n := 0) (by decide) (by decide +kernel)) ?_
  refine ak (ok_istore (by decide) (by decide +kernel)) ?_
  refine ak (ok_iload (by decide +kernel)) ?_
  refine ak (ok_iload_n (k := 3) rfl (by decide +kernel)) ?_
  refine ak (ok_icmp_ge (off := 48) (by decide) (by decide +kernel)) ?_
  refine ak (ok_aload_n (k := 0) rfl (by decide +kernel)) ?_
  refine ak (ok_get (k := 0) ck11 kd40 (by decide) (fun _ _ _ => rfl) (vf_40_0 hsd) tw1242 (by decide +kernel)) ?_
  refine ak (ok_sipush (n := 1432) (by decide) (by decide +kernel)) ?_
  refine ak (ok_aload_n (k := 0) rfl (by decide +kernel)) ?_
  refine ak (ok_get (k := 0) ck11 kd40 (by decide) (fun _ _ _ => rfl) (vf_40_0 hsd) tw1242 (by decide +kernel)) ?_
  refine ak (ok_bipush (n := 7) (by decide) (by decide +kernel)) ?_
  refine ak (ok_iald kd41 (by decide) (by decide +kernel)) ?_
  refine ak (ok_iadd (by decide +kernel)) ?_
  refine ak (ok_lload_n (k := 1) rfl (by decide +kernel)) ?_
  refine ak (ok_bipush (n := 8) (by decide) (by decide +kernel)) ?_
  refine ak (ok_iload (by decide +kernel)) ?_
  refine ak (ok_imul (by decide +kernel)) ?_
  refine ak (ok_lshr (by decide +kernel)) ?_
  refine ak (ok_ldc2 tw1469 (by decide +kernel)) ?_
  refine ak (ok_land (by decide +kernel)) ?_
  refine ak (ok_l2i (by decide +kernel)) ?_
  refine ak (ok_iast kd41 (by decide) (by decide) (by decide +kernel)) ?_
  refine ak (ok_aload_n (k := 0) rfl (by decide +kernel)) ?_
  refine ak (ok_get (k := 0) ck11 kd40 (by decide) (fun _ _ _ => rfl) (vf_40_0 hsd) tw1242 (by decide +kernel)) ?_
  refine ak (ok_bipush (n := 7) (by decide) (by decide +kernel)) ?_
  refine ak (ok_dup2 (by decide +kernel)) ?_
  refine ak (ok_iald kd41 (by decide) (by decide +kernel)) ?_
  refine ak (ok_iconst (n := 1) (by decide) (by decide +kernel)) ?_
  refine ak (ok_iadd (by decide +kernel)) ?_
  refine ak (ok_iast kd41 (by decide) (by decide) (by decide +kernel)) ?_
  refine ak (ok_iinc (n := 1) (by decide) (by decide) (by decide +kernel)) ?_
  refine ak (ok_goto (off := (-48)) (by decide) (by decide +kernel)) ?_
  refine ak (ok_aload_n (k := 0) rfl (by decide +kernel)) ?_
  refine ak (ok_get (k := 0) ck11 kd40 (by decide) (fun _ _ _ => rfl) (vf_40_0 hsd) tw1242 (by decide +kernel)) ?_
  refine ak (ok_bipush (n := 7) (by decide) (by decide +kernel)) ?_
  refine ak (ok_iald kd41 (by decide) (by decide +kernel)) ?_
  refine ak (ok_ireturn rfl (by decide +kernel)) ?_
  exact trivial
def KK_feed_39 (j39 : Int64 → Int32 → Int32 → Mem → Option (Int32 × Mem)) : Jm (Int32 × Mem) := fun t als st M =>
  if t = 39 then (match als, st with
  | [.inr (.inr (.inl (al0, bl0, cl0))), .inr (.inl x1), _, .inl x3, .inl x4], [] => if al0 = 40 ∧ bl0 = 0 ∧ cl0 = 0 then j39 x1 x3 x4 M else none
  | _, _ => none) else
  none
set_option maxRecDepth 1000000 in
theorem eK_feed_39 (j39 : Int64 → Int32 → Int32 → Mem → Option (Int32 × Mem)) (x1 : Int64) (x3 : Int32) (x4 : Int32) (M : Mem) (u2 : AV) : run (cK_feed) (KK_feed_39 j39) rtI 400 (seek (cK_feed) 39) [aR (40, 0, 0), aL x1, u2, aI x3, aI x4] [] M = mK_feed_39b j39 x1 x3 x4 M := id rfl
theorem lK_feed_39 {E : EV} {l : Launch} {p : Program} {e : Env} {s : State} {m : MethodId} {args : Array Value} {below : List Frame} {meth : Method} {c : Code} (A : AllOK E l 2 "FreeLancesModel" prog_13_method_38_code 5 (some .int) outI (cK_feed)) (C : Cx E p s m args meth c "FreeLancesModel" prog_13_method_38_code 5 (some .int)) : ∀ (n : Nat), ∀ (x1 : Int64) (x3 : Int32) (x4 : Int32) (M : Mem) (res : (Int32 × Mem)), mK_feed_39 n x1 x3 x4 M = some res → ∀ (u2 : AV), Wm E p l e 2 s m args below meth c 5 39 [aR (40, 0, 0), aL x1, u2, aI x3, aI x4] [] M (outI res).1 (outI res).2 := by
  intro n
  induction n with
  | zero => intro _ _ _ M res h; cases h
  | succ n ih =>
    intro x1 x3 x4 M res h u2
    refine run_at C A rfl hrtI (n := 400) ((eK_feed_39 (mK_feed_39 n) x1 x3 x4 M u2).trans h) ?_
    intro t als st M hk
    unfold KK_feed_39 at hk
    split at hk
    · rename_i ht
      subst ht
      split at hk
      · split at hk
        · rename_i hc
          obtain ⟨rfl, rfl, rfl⟩ := hc
          exact ih _ _ _ _ _ hk _
        · cases hk
      · cases hk
    cases hk
def KK_feed (j39 : Int64 → Int32 → Int32 → Mem → Option (Int32 × Mem)) : Jm (Int32 × Mem) := fun t als st M =>
  if t = 39 then (match als, st with
  | [.inr (.inr (.inl (al0, bl0, cl0))), .inr (.inl x1), _, .inl x3, .inl x4], [] => if al0 = 40 ∧ bl0 = 0 ∧ cl0 = 0 then j39 x1 x3 x4 M else none
  | _, _ => none) else
  none
set_option maxRecDepth 1000000 in
theorem eK_feed (j39 : Int64 → Int32 → Int32 → Mem → Option (Int32 × Mem)) (x1 : Int64) (x3 : Int32) (M : Mem) : run (cK_feed) (KK_feed j39) rtI 400 (seek (cK_feed) 0) [aR (40, 0, 0), aL x1, aU, aI x3, aU] [] M = mK_feedb j39 x1 x3 M := id rfl
theorem lK_feed {E : EV} {l : Launch} {p : Program} {e : Env} {s : State} {m : MethodId} {args : Array Value} {below : List Frame} {meth : Method} {c : Code} (A : AllOK E l 2 "FreeLancesModel" prog_13_method_38_code 5 (some .int) outI (cK_feed)) (C : Cx E p s m args meth c "FreeLancesModel" prog_13_method_38_code 5 (some .int)) : ∀ (x1 : Int64) (x3 : Int32) (M : Mem) (res : (Int32 × Mem)), mK_feed x1 x3 M = some res → Wm E p l e 2 s m args below meth c 5 0 [aR (40, 0, 0), aL x1, aU, aI x3, aU] [] M (outI res).1 (outI res).2 := by
  intro x1 x3 M res h
  refine run_at C A rfl hrtI (n := 400) ((eK_feed (mK_feed_39 fuel) x1 x3 M).trans h) ?_
  intro t als st M hk
  unfold KK_feed at hk
  split at hk
  · rename_i ht
    subst ht
    split at hk
    · split at hk
      · rename_i hc
        obtain ⟨rfl, rfl, rfl⟩ := hc
        exact lK_feed_39 A C _ _ _ _ _ _ hk _
      · cases hk
    · cases hk
  cases hk
def dK_feed {β : Type} : Den β := fun as M k => match as with
  | [.inr (.inr (.inl (al0, bl0, cl0))), .inr (.inl x1), .inl x3] => if al0 = 40 ∧ bl0 = 0 ∧ cl0 = 0 then (mK_feed x1 x3 M).bind fun q => k (aI q.1) q.2 else none
  | _ => none
theorem wK_feed {E : EV} (hsd : E.2.2.2 = 1) (l : Launch) (x1 : Int64) (x3 : Int32) (M : Mem) (q : (Int32 × Mem)) (hq : mK_feed x1 x3 M = some q) : Con E l 2 yK_feed prog_13_method_38_code 5 (some .int) [aR (40, 0, 0), aL x1, aI x3] M (outI q).1 (outI q).2 := by
  refine con_of iK_feed (Nat.le_of_ble_eq_true rfl) ?_
  intro p e s m args below meth c C
  exact lK_feed (oK_feed hsd l) C x1 x3 M _ hq
theorem kK_feed {E : EV} (hsd : E.2.2.2 = 1) (l : Launch) {β : Type} : DenOK E l 2 yK_feed prog_13_method_38_code 5 (some .int) true (dK_feed (β := β)) := by
  intro as M k res h
  unfold dK_feed at h
  split at h
  ·
    split at h
    · rename_i hc
      obtain ⟨rfl, rfl, rfl⟩ := hc
      obtain ⟨q, hq, hk⟩ := Option.bind_eq_some_iff.mp h
      exact ⟨aI q.1, q.2, hk, rfl, wK_feed hsd l _ _ M q hq⟩
    · cases h
  · cases h
theorem qK_feed {β : Type} : RecOK 40 (dK_feed (β := β)) := by
  intro as M k res h
  unfold dK_feed at h
  split at h
  ·
    split at h
    · rename_i hc
      obtain ⟨rfl, rfl, rfl⟩ := hc
      exact ⟨_, _, _, rfl⟩
    · cases h
  · cases h
/-! ===== FreeLancesModel.isDay(I)Z ===== -/
abbrev yK_isDay : MethodName := ⟨"FreeLancesModel", "isDay", "(I)Z"⟩
theorem iK_isDay : MI yK_isDay prog_13_method_9_code 1 (some .boolean) 1 := ⟨tw1476, tw108, ⟨by decide, by decide⟩, by decide +kernel, by decide, by decide⟩
def cK_isDay : List (Ent (Int32 × Mem)) := [(false, 0, 1, sLdI 0),
  (false, 1, 1, sC 0),
  (false, 2, 3, sC 3000),
  (false, 5, 3, sInv 3 true dK_in),
  (false, 8, 1, sRetZ)]
theorem oK_isDay {E : EV} (hsd : E.2.2.2 = 1) (l : Launch) : AllOK E l 2 "FreeLancesModel" prog_13_method_9_code 1 (some .boolean) outI (cK_isDay) := by
  refine ak (ok_iload_n (k := 0) rfl (by decide +kernel)) ?_
  refine ak (ok_iconst (n := 0) (by decide) (by decide +kernel)) ?_
  refine ak (ok_sipush (n := 3000) (by decide) (by decide +kernel)) ?_
  refine ak (ok_invS (kK_in hsd l) iK_in tw1330 (by decide) tw1329 (by decide +kernel)) ?_
  refine ak (ok_zreturn rfl (by decide +kernel)) ?_
  exact trivial
set_option maxRecDepth 1000000 in
theorem eK_isDay (x0 : Int32) (M : Mem) : run (cK_isDay) (fun _ _ _ _ => none) rtI 400 (seek (cK_isDay) 0) [aI x0] [] M = mK_isDay x0 M := id rfl
theorem lK_isDay {E : EV} {l : Launch} {p : Program} {e : Env} {s : State} {m : MethodId} {args : Array Value} {below : List Frame} {meth : Method} {c : Code} (A : AllOK E l 2 "FreeLancesModel" prog_13_method_9_code 1 (some .boolean) outI (cK_isDay)) (C : Cx E p s m args meth c "FreeLancesModel" prog_13_method_9_code 1 (some .boolean)) : ∀ (x0 : Int32) (M : Mem) (res : (Int32 × Mem)), mK_isDay x0 M = some res → Wm E p l e 2 s m args below meth c 1 0 [aI x0] [] M (outI res).1 (outI res).2 := by
  intro x0 M res h
  refine run_at C A rfl hrtI (n := 400) ((eK_isDay x0 M).trans h) ?_
  intro t als st M hk; cases hk
def dK_isDay {β : Type} : Den β := fun as M k => match as with
  | [.inl x0] => (mK_isDay x0 M).bind fun q => k (aI q.1) q.2
  | _ => none
theorem wK_isDay {E : EV} (hsd : E.2.2.2 = 1) (l : Launch) (x0 : Int32) (M : Mem) (q : (Int32 × Mem)) (hq : mK_isDay x0 M = some q) : Con E l 2 yK_isDay prog_13_method_9_code 1 (some .boolean) [aI x0] M (outI q).1 (outI q).2 := by
  refine con_of iK_isDay (Nat.le_of_ble_eq_true rfl) ?_
  intro p e s m args below meth c C
  exact lK_isDay (oK_isDay hsd l) C x0 M _ hq
theorem kK_isDay {E : EV} (hsd : E.2.2.2 = 1) (l : Launch) {β : Type} : DenOK E l 2 yK_isDay prog_13_method_9_code 1 (some .boolean) true (dK_isDay (β := β)) := by
  intro as M k res h
  unfold dK_isDay at h
  split at h
  · obtain ⟨q, hq, hk⟩ := Option.bind_eq_some_iff.mp h
    exact ⟨aI q.1, q.2, hk, rfl, wK_isDay hsd l _ M q hq⟩
  · cases h
/-! ===== FreeLancesModel.byteAt(I)I ===== -/
abbrev yK_byteAt : MethodName := ⟨"FreeLancesModel", "byteAt", "(I)I"⟩
theorem iK_byteAt : MI yK_byteAt prog_13_method_39_code 2 (some .int) 1 := ⟨tw1484, tw108, ⟨by decide, by decide⟩, by decide +kernel, by decide, by decide⟩
def cK_byteAt : List (Ent (Int32 × Mem)) := [(false, 0, 1, sLdI 1),
  (false, 1, 1, sLdA 0),
  (false, 2, 3, sGet 40 (fun w i M => aR (41, 0, 0))),
  (false, 5, 2, sC 7),
  (false, 7, 1, sIald 41 1502),
  (false, 8, 3, sCmpGe 24),
  (false, 11, 1, sLdA 0),
  (false, 12, 3, sGet 40 (fun w i M => aR (41, 0, 0))),
  (false, 15, 3, sC 1432),
  (false, 18, 1, sLdI 1),
  (false, 19, 1, sBin (fun x y => x + y)),
  (false, 20, 1, sIald 41 1502),
  (false, 21, 3, sGoto 25),
  (false, 24, 1, sC (-1)),
  (false, 25, 1, sRetI)]
theorem oK_byteAt {E : EV} (hsd : E.2.2.2 = 1) (l : Launch) : AllOK E l 1 "FreeLancesModel" prog_13_method_39_code 2 (some .int) outI (cK_byteAt) := by
  refine ak (ok_iload_n (k := 1) rfl (by decide +kernel)) ?_
  refine ak (ok_aload_n (k := 0) rfl (by decide +kernel)) ?_
  refine ak (ok_get (k := 0) ck11 kd40 (by decide) (fun _ _ _ => rfl) (vf_40_0 hsd) tw1242 (by decide +kernel)) ?_
  refine ak (ok_bipush (n := 7) (by decide) (by decide +kernel)) ?_
  refine ak (ok_iald kd41 (by decide) (by decide +kernel)) ?_
  refine ak (ok_icmp_ge (off := 16) (by decide) (by decide +kernel)) ?_
  refine ak (ok_aload_n (k := 0) rfl (by decide +kernel)) ?_
  refine ak (ok_get (k := 0) ck11 kd40 (by decide) (fun _ _ _ => rfl) (vf_40_0 hsd) tw1242 (by decide +kernel)) ?_
  refine ak (ok_sipush (n := 1432) (by decide) (by decide +kernel)) ?_
  refine ak (ok_iload_n (k := 1) rfl (by decide +kernel)) ?_
  refine ak (ok_iadd (by decide +kernel)) ?_
  refine ak (ok_iald kd41 (by decide) (by decide +kernel)) ?_
  refine ak (ok_goto (off := 4) (by decide) (by decide +kernel)) ?_
  refine ak (ok_iconst (n := (-1)) (by decide) (by decide +kernel)) ?_
  refine ak (ok_ireturn rfl (by decide +kernel)) ?_
  exact trivial
set_option maxRecDepth 1000000 in
theorem eK_byteAt (x1 : Int32) (M : Mem) : run (cK_byteAt) (fun _ _ _ _ => none) rtI 400 (seek (cK_byteAt) 0) [aR (40, 0, 0), aI x1] [] M = mK_byteAt x1 M := id rfl
theorem lK_byteAt {E : EV} {l : Launch} {p : Program} {e : Env} {s : State} {m : MethodId} {args : Array Value} {below : List Frame} {meth : Method} {c : Code} (A : AllOK E l 1 "FreeLancesModel" prog_13_method_39_code 2 (some .int) outI (cK_byteAt)) (C : Cx E p s m args meth c "FreeLancesModel" prog_13_method_39_code 2 (some .int)) : ∀ (x1 : Int32) (M : Mem) (res : (Int32 × Mem)), mK_byteAt x1 M = some res → Wm E p l e 1 s m args below meth c 2 0 [aR (40, 0, 0), aI x1] [] M (outI res).1 (outI res).2 := by
  intro x1 M res h
  refine run_at C A rfl hrtI (n := 400) ((eK_byteAt x1 M).trans h) ?_
  intro t als st M hk; cases hk
def dK_byteAt {β : Type} : Den β := fun as M k => match as with
  | [.inr (.inr (.inl (al0, bl0, cl0))), .inl x1] => if al0 = 40 ∧ bl0 = 0 ∧ cl0 = 0 then (mK_byteAt x1 M).bind fun q => k (aI q.1) q.2 else none
  | _ => none
theorem wK_byteAt {E : EV} (hsd : E.2.2.2 = 1) (l : Launch) (x1 : Int32) (M : Mem) (q : (Int32 × Mem)) (hq : mK_byteAt x1 M = some q) : Con E l 1 yK_byteAt prog_13_method_39_code 2 (some .int) [aR (40, 0, 0), aI x1] M (outI q).1 (outI q).2 := by
  refine con_of iK_byteAt (Nat.le_of_ble_eq_true rfl) ?_
  intro p e s m args below meth c C
  exact lK_byteAt (oK_byteAt hsd l) C x1 M _ hq
theorem kK_byteAt {E : EV} (hsd : E.2.2.2 = 1) (l : Launch) {β : Type} : DenOK E l 1 yK_byteAt prog_13_method_39_code 2 (some .int) true (dK_byteAt (β := β)) := by
  intro as M k res h
  unfold dK_byteAt at h
  split at h
  ·
    split at h
    · rename_i hc
      obtain ⟨rfl, rfl, rfl⟩ := hc
      obtain ⟨q, hq, hk⟩ := Option.bind_eq_some_iff.mp h
      exact ⟨aI q.1, q.2, hk, rfl, wK_byteAt hsd l _ M q hq⟩
    · cases h
  · cases h
theorem qK_byteAt {β : Type} : RecOK 40 (dK_byteAt (β := β)) := by
  intro as M k res h
  unfold dK_byteAt at h
  split at h
  ·
    split at h
    · rename_i hc
      obtain ⟨rfl, rfl, rfl⟩ := hc
      exact ⟨_, _, _, rfl⟩
    · cases h
  · cases h
/-! ===== FreeLancesModel.openMany()I ===== -/
abbrev yK_openMany : MethodName := ⟨"FreeLancesModel", "openMany", "()I"⟩
theorem iK_openMany : MI yK_openMany prog_13_method_45_code 3 (some .int) 0 := ⟨tw1492, tw108, ⟨by decide, by decide⟩, by decide +kernel, by decide, by decide⟩
def cK_openMany : List (Ent (Int32 × Mem)) := [(false, 0, 1, sC 0),
  (false, 1, 1, sStI 1),
  (false, 2, 1, sC 0),
  (false, 3, 1, sStI 2),
  (true, 4, 1, sLdI 2),
  (false, 5, 1, sLdA 0),
  (false, 6, 3, sGet 40 (fun w i M => aI (M 40 w i 11))),
  (false, 9, 3, sCmpGe 48),
  (false, 12, 1, sLdI 1),
  (false, 13, 1, sLdA 0),
  (false, 14, 3, sGet 40 (fun w i M => aR (48, 0, 0))),
  (false, 17, 1, sLdI 2),
  (false, 18, 1, sIald 48 50),
  (false, 19, 2, sC 33),
  (false, 21, 3, sCmpEq 35),
  (false, 24, 1, sLdA 0),
  (false, 25, 3, sGet 40 (fun w i M => aR (48, 0, 0))),
  (false, 28, 1, sLdI 2),
  (false, 29, 1, sIald 48 50),
  (false, 30, 2, sC 40),
  (false, 32, 3, sCmpNe 39),
  (false, 35, 1, sC 1),
  (false, 36, 3, sGoto 40),
  (false, 39, 1, sC 0),
  (false, 40, 1, sBin (fun x y => x + y)),
  (false, 41, 1, sStI 1),
  (false, 42, 3, sInc 2 1),
  (false, 45, 3, sGoto 4),
  (false, 48, 1, sLdI 1),
  (false, 49, 1, sRetI)]
theorem oK_openMany {E : EV} (hsd : E.2.2.2 = 1) (l : Launch) : AllOK E l 1 "FreeLancesModel" prog_13_method_45_code 3 (some .int) outI (cK_openMany) := by
  refine ak (ok_iconst (n := 0) (by decide) (by decide +kernel)) ?_
  refine ak (ok_istore_n (k := 1) rfl (by decide) (by decide +kernel)) ?_
  refine ak (ok_iconst (n := 0) (by decide) (by decide +kernel)) ?_
  refine ak (ok_istore_n (k := 2) rfl (by decide) (by decide +kernel)) ?_
  refine ak (ok_iload_n (k := 2) rfl (by decide +kernel)) ?_
  refine ak (ok_aload_n (k := 0) rfl (by decide +kernel)) ?_
  refine ak (ok_get (k := 11) ck11 kd40 (by decide) (fun _ _ _ => rfl) (fun _ _ _ _ _ => trivial) tw1253 (by decide +kernel)) ?_
  refine ak (ok_icmp_ge (off := 39) (by decide) (by decide +kernel)) ?_
  refine ak (ok_iload_n (k := 1) rfl (by decide +kernel)) ?_
  refine ak (ok_aload_n (k := 0) rfl (by decide +kernel)) ?_
  refine ak (ok_get (k := 7) ck11 kd40 (by decide) (fun _ _ _ => rfl) (vf_40_7 hsd) tw1249 (by decide +kernel)) ?_
  refine ak (ok_iload_n (k := 2) rfl (by decide +kernel)) ?_
  refine ak (ok_iald kd48 (by decide) (by decide +kernel)) ?_
  refine ak (ok_bipush (n := 33) (by decide) (by decide +kernel)) ?_
  refine ak (ok_icmp_eq (off := 14) (by decide) (by decide +kernel)) ?_
  refine ak (ok_aload_n (k := 0) rfl (by decide +kernel)) ?_
  refine ak (ok_get (k := 7) ck11 kd40 (by decide) (fun _ _ _ => rfl) (vf_40_7 hsd) tw1249 (by decide +kernel)) ?_
  refine ak (ok_iload_n (k := 2) rfl (by decide +kernel)) ?_
  refine ak (ok_iald kd48 (by decide) (by decide +kernel)) ?_
  refine ak (ok_bipush (n := 40) (by decide) (by decide +kernel)) ?_
  refine ak (ok_icmp_ne (off := 7) (by decide) (by decide +kernel)) ?_
  refine ak (ok_iconst (n := 1) (by decide) (by decide +kernel)) ?_
  refine ak (ok_goto (off := 4) (by decide) (by decide +kernel)) ?_
  refine ak (ok_iconst (n := 0) (by decide) (by decide +kernel)) ?_
  refine ak (ok_iadd (by decide +kernel)) ?_
  refine ak (ok_istore_n (k := 1) rfl (by decide) (by decide +kernel)) ?_
  refine ak (ok_iinc (n := 1) (by decide) (by decide) (by decide +kernel)) ?_
  refine ak (ok_goto (off := (-41)) (by decide) (by decide +kernel)) ?_
  refine ak (ok_iload_n (k := 1) rfl (by decide +kernel)) ?_
  refine ak (ok_ireturn rfl (by decide +kernel)) ?_
  exact trivial
def KK_openMany_4 (j4 : Int32 → Int32 → Mem → Option (Int32 × Mem)) : Jm (Int32 × Mem) := fun t als st M =>
  if t = 4 then (match als, st with
  | [.inr (.inr (.inl (al0, bl0, cl0))), .inl x1, .inl x2], [] => if al0 = 40 ∧ bl0 = 0 ∧ cl0 = 0 then j4 x1 x2 M else none
  | _, _ => none) else
  none
set_option maxRecDepth 1000000 in
theorem eK_openMany_4 (j4 : Int32 → Int32 → Mem → Option (Int32 × Mem)) (x1 : Int32) (x2 : Int32) (M : Mem) : run (cK_openMany) (KK_openMany_4 j4) rtI 400 (seek (cK_openMany) 4) [aR (40, 0, 0), aI x1, aI x2] [] M = mK_openMany_4b j4 x1 x2 M := id rfl
theorem lK_openMany_4 {E : EV} {l : Launch} {p : Program} {e : Env} {s : State} {m : MethodId} {args : Array Value} {below : List Frame} {meth : Method} {c : Code} (A : AllOK E l 1 "FreeLancesModel" prog_13_method_45_code 3 (some .int) outI (cK_openMany)) (C : Cx E p s m args meth c "FreeLancesModel" prog_13_method_45_code 3 (some .int)) : ∀ (n : Nat), ∀ (x1 : Int32) (x2 : Int32) (M : Mem) (res : (Int32 × Mem)), mK_openMany_4 n x1 x2 M = some res → Wm E p l e 1 s m args below meth c 3 4 [aR (40, 0, 0), aI x1, aI x2] [] M (outI res).1 (outI res).2 := by
  intro n
  induction n with
  | zero => intro _ _ M res h; cases h
  | succ n ih =>
    intro x1 x2 M res h
    refine run_at C A rfl hrtI (n := 400) ((eK_openMany_4 (mK_openMany_4 n) x1 x2 M).trans h) ?_
    intro t als st M hk
    unfold KK_openMany_4 at hk
    split at hk
    · rename_i ht
      subst ht
      split at hk
      · split at hk
        · rename_i hc
          obtain ⟨rfl, rfl, rfl⟩ := hc
          exact ih _ _ _ _ hk
        · cases hk
      · cases hk
    cases hk
def KK_openMany (j4 : Int32 → Int32 → Mem → Option (Int32 × Mem)) : Jm (Int32 × Mem) := fun t als st M =>
  if t = 4 then (match als, st with
  | [.inr (.inr (.inl (al0, bl0, cl0))), .inl x1, .inl x2], [] => if al0 = 40 ∧ bl0 = 0 ∧ cl0 = 0 then j4 x1 x2 M else none
  | _, _ => none) else
  none
set_option maxRecDepth 1000000 in
theorem eK_openMany (j4 : Int32 → Int32 → Mem → Option (Int32 × Mem)) (M : Mem) : run (cK_openMany) (KK_openMany j4) rtI 400 (seek (cK_openMany) 0) [aR (40, 0, 0), aU, aU] [] M = mK_openManyb j4 M := id rfl
theorem lK_openMany {E : EV} {l : Launch} {p : Program} {e : Env} {s : State} {m : MethodId} {args : Array Value} {below : List Frame} {meth : Method} {c : Code} (A : AllOK E l 1 "FreeLancesModel" prog_13_method_45_code 3 (some .int) outI (cK_openMany)) (C : Cx E p s m args meth c "FreeLancesModel" prog_13_method_45_code 3 (some .int)) : ∀ (M : Mem) (res : (Int32 × Mem)), mK_openMany M = some res → Wm E p l e 1 s m args below meth c 3 0 [aR (40, 0, 0), aU, aU] [] M (outI res).1 (outI res).2 := by
  intro M res h
  refine run_at C A rfl hrtI (n := 400) ((eK_openMany (mK_openMany_4 fuel) M).trans h) ?_
  intro t als st M hk
  unfold KK_openMany at hk
  split at hk
  · rename_i ht
    subst ht
    split at hk
    · split at hk
      · rename_i hc
        obtain ⟨rfl, rfl, rfl⟩ := hc
        exact lK_openMany_4 A C _ _ _ _ _ hk
      · cases hk
    · cases hk
  cases hk
def dK_openMany {β : Type} : Den β := fun as M k => match as with
  | [.inr (.inr (.inl (al0, bl0, cl0)))] => if al0 = 40 ∧ bl0 = 0 ∧ cl0 = 0 then (mK_openMany M).bind fun q => k (aI q.1) q.2 else none
  | _ => none
theorem wK_openMany {E : EV} (hsd : E.2.2.2 = 1) (l : Launch) (M : Mem) (q : (Int32 × Mem)) (hq : mK_openMany M = some q) : Con E l 1 yK_openMany prog_13_method_45_code 3 (some .int) [aR (40, 0, 0)] M (outI q).1 (outI q).2 := by
  refine con_of iK_openMany (Nat.le_of_ble_eq_true rfl) ?_
  intro p e s m args below meth c C
  exact lK_openMany (oK_openMany hsd l) C M _ hq
theorem kK_openMany {E : EV} (hsd : E.2.2.2 = 1) (l : Launch) {β : Type} : DenOK E l 1 yK_openMany prog_13_method_45_code 3 (some .int) true (dK_openMany (β := β)) := by
  intro as M k res h
  unfold dK_openMany at h
  split at h
  ·
    split at h
    · rename_i hc
      obtain ⟨rfl, rfl, rfl⟩ := hc
      obtain ⟨q, hq, hk⟩ := Option.bind_eq_some_iff.mp h
      exact ⟨aI q.1, q.2, hk, rfl, wK_openMany hsd l M q hq⟩
    · cases h
  · cases h
theorem qK_openMany {β : Type} : RecOK 40 (dK_openMany (β := β)) := by
  intro as M k res h
  unfold dK_openMany at h
  split at h
  ·
    split at h
    · rename_i hc
      obtain ⟨rfl, rfl, rfl⟩ := hc
      exact ⟨_, _, _, rfl⟩
    · cases h
  · cases h
/-! ===== FreeLancesModel.nameOf(II)I ===== -/
abbrev yK_nameOf : MethodName := ⟨"FreeLancesModel", "nameOf", "(II)I"⟩
theorem iK_nameOf : MI yK_nameOf prog_13_method_41_code 2 (some .int) 2 := ⟨tw1495, tw108, ⟨by decide, by decide⟩, by decide +kernel, by decide, by decide⟩
def cK_nameOf : List (Ent (Int32 × Mem)) := [(false, 0, 1, sLdI 0),
  (false, 1, 27, sSw 104 [(0, 28), (1, 60), (2, 82)]),
  (false, 28, 1, sLdI 1),
  (false, 29, 2, sC 104),
  (false, 31, 3, sCmpNe 38),
  (false, 34, 1, sC 1),
  (false, 35, 3, sGoto 59),
  (false, 38, 1, sLdI 1),
  (false, 39, 2, sC 109),
  (false, 41, 3, sCmpNe 48),
  (false, 44, 1, sC 2),
  (false, 45, 3, sGoto 59),
  (false, 48, 1, sLdI 1),
  (false, 49, 2, sC 115),
  (false, 51, 3, sCmpNe 58),
  (false, 54, 1, sC 3),
  (false, 55, 3, sGoto 59),
  (false, 58, 1, sC 0),
  (false, 59, 1, sRetI),
  (false, 60, 1, sLdI 1),
  (false, 61, 2, sC 110),
  (false, 63, 3, sCmpNe 70),
  (false, 66, 1, sC 1),
  (false, 67, 3, sGoto 81),
  (false, 70, 1, sLdI 1),
  (false, 71, 2, sC 112),
  (false, 73, 3, sCmpNe 80),
  (false, 76, 1, sC 2),
  (false, 77, 3, sGoto 81),
  (false, 80, 1, sC 0),
  (false, 81, 1, sRetI),
  (false, 82, 1, sLdI 1),
  (false, 83, 2, sC 108),
  (false, 85, 3, sCmpNe 92),
  (false, 88, 1, sC 1),
  (false, 89, 3, sGoto 103),
  (false, 92, 1, sLdI 1),
  (false, 93, 2, sC 111),
  (false, 95, 3, sCmpNe 102),
  (false, 98, 1, sC 2),
  (false, 99, 3, sGoto 103),
  (false, 102, 1, sC 0),
  (false, 103, 1, sRetI),
  (false, 104, 1, sLdI 1),
  (false, 105, 2, sC 99),
  (false, 107, 3, sCmpNe 114),
  (false, 110, 1, sC 1),
  (false, 111, 3, sGoto 115),
  (false, 114, 1, sC 0),
  (false, 115, 1, sRetI)]
theorem oK_nameOf {E : EV} (hsd : E.2.2.2 = 1) (l : Launch) : AllOK E l 1 "FreeLancesModel" prog_13_method_41_code 2 (some .int) outI (cK_nameOf) := by
  refine ak (ok_iload_n (k := 0) rfl (by decide +kernel)) ?_
  refine ak (ok_table (df := 103) (lo := 0) (hi := 2) (offs := #[27, 59, 81]) (by decide) (by decide) (by decide) (by decide +kernel)) ?_
  refine ak (ok_iload_n (k := 1) rfl (by decide +kernel)) ?_
  refine ak (ok_bipush (n := 104) (by decide) (by decide +kernel)) ?_
  refine ak (ok_icmp_ne (off := 7) (by decide) (by decide +kernel)) ?_
  refine ak (ok_iconst (n := 1) (by decide) (by decide +kernel)) ?_
  refine ak (ok_goto (off := 24) (by decide) (by decide +kernel)) ?_
  refine ak (ok_iload_n (k := 1) rfl (by decide +kernel)) ?_
  refine ak (ok_bipush (n := 109) (by decide) (by decide +kernel)) ?_
  refine ak (ok_icmp_ne (off := 7) (by decide) (by decide +kernel)) ?_
  refine ak (ok_iconst (n := 2) (by decide) (by decide +kernel)) ?_
  refine ak (ok_goto (off := 14) (by decide) (by decide +kernel)) ?_
  refine ak (ok_iload_n (k := 1) rfl (by decide +kernel)) ?_
  refine ak (ok_bipush (n := 115) (by decide) (by decide +kernel)) ?_
  refine ak (ok_icmp_ne (off := 7) (by decide) (by decide +kernel)) ?_
  refine ak (ok_iconst (n := 3) (by decide) (by decide +kernel)) ?_
  refine ak (ok_goto (off := 4) (by decide) (by decide +kernel)) ?_
  refine ak (ok_iconst (n := 0) (by decide) (by decide +kernel)) ?_
  refine ak (ok_ireturn rfl (by decide +kernel)) ?_
  refine ak (ok_iload_n (k := 1) rfl (by decide +kernel)) ?_
  refine ak (ok_bipush (n := 110) (by decide) (by decide +kernel)) ?_
  refine ak (ok_icmp_ne (off := 7) (by decide) (by decide +kernel)) ?_
  refine ak (ok_iconst (n := 1) (by decide) (by decide +kernel)) ?_
  refine ak (ok_goto (off := 14) (by decide) (by decide +kernel)) ?_
  refine ak (ok_iload_n (k := 1) rfl (by decide +kernel)) ?_
  refine ak (ok_bipush (n := 112) (by decide) (by decide +kernel)) ?_
  refine ak (ok_icmp_ne (off := 7) (by decide) (by decide +kernel)) ?_
  refine ak (ok_iconst (n := 2) (by decide) (by decide +kernel)) ?_
  refine ak (ok_goto (off := 4) (by decide) (by decide +kernel)) ?_
  refine ak (ok_iconst (n := 0) (by decide) (by decide +kernel)) ?_
  refine ak (ok_ireturn rfl (by decide +kernel)) ?_
  refine ak (ok_iload_n (k := 1) rfl (by decide +kernel)) ?_
  refine ak (ok_bipush (n := 108) (by decide) (by decide +kernel)) ?_
  refine ak (ok_icmp_ne (off := 7) (by decide) (by decide +kernel)) ?_
  refine ak (ok_iconst (n := 1) (by decide) (by decide +kernel)) ?_
  refine ak (ok_goto (off := 14) (by decide) (by decide +kernel)) ?_
  refine ak (ok_iload_n (k := 1) rfl (by decide +kernel)) ?_
  refine ak (ok_bipush (n := 111) (by decide) (by decide +kernel)) ?_
  refine ak (ok_icmp_ne (off := 7) (by decide) (by decide +kernel)) ?_
  refine ak (ok_iconst (n := 2) (by decide) (by decide +kernel)) ?_
  refine ak (ok_goto (off := 4) (by decide) (by decide +kernel)) ?_
  refine ak (ok_iconst (n := 0) (by decide) (by decide +kernel)) ?_
  refine ak (ok_ireturn rfl (by decide +kernel)) ?_
  refine ak (ok_iload_n (k := 1) rfl (by decide +kernel)) ?_
  refine ak (ok_bipush (n := 99) (by decide) (by decide +kernel)) ?_
  refine ak (ok_icmp_ne (off := 7) (by decide) (by decide +kernel)) ?_
  refine ak (ok_iconst (n := 1) (by decide) (by decide +kernel)) ?_
  refine ak (ok_goto (off := 4) (by decide) (by decide +kernel)) ?_
  refine ak (ok_iconst (n := 0) (by decide) (by decide +kernel)) ?_
  refine ak (ok_ireturn rfl (by decide +kernel)) ?_
  exact trivial
set_option maxRecDepth 1000000 in
theorem eK_nameOf (x0 : Int32) (x1 : Int32) (M : Mem) : run (cK_nameOf) (fun _ _ _ _ => none) rtI 400 (seek (cK_nameOf) 0) [aI x0, aI x1] [] M = mK_nameOf x0 x1 M := id rfl
theorem lK_nameOf {E : EV} {l : Launch} {p : Program} {e : Env} {s : State} {m : MethodId} {args : Array Value} {below : List Frame} {meth : Method} {c : Code} (A : AllOK E l 1 "FreeLancesModel" prog_13_method_41_code 2 (some .int) outI (cK_nameOf)) (C : Cx E p s m args meth c "FreeLancesModel" prog_13_method_41_code 2 (some .int)) : ∀ (x0 : Int32) (x1 : Int32) (M : Mem) (res : (Int32 × Mem)), mK_nameOf x0 x1 M = some res → Wm E p l e 1 s m args below meth c 2 0 [aI x0, aI x1] [] M (outI res).1 (outI res).2 := by
  intro x0 x1 M res h
  refine run_at C A rfl hrtI (n := 400) ((eK_nameOf x0 x1 M).trans h) ?_
  intro t als st M hk; cases hk
def dK_nameOf {β : Type} : Den β := fun as M k => match as with
  | [.inl x0, .inl x1] => (mK_nameOf x0 x1 M).bind fun q => k (aI q.1) q.2
  | _ => none
theorem wK_nameOf {E : EV} (hsd : E.2.2.2 = 1) (l : Launch) (x0 : Int32) (x1 : Int32) (M : Mem) (q : (Int32 × Mem)) (hq : mK_nameOf x0 x1 M = some q) : Con E l 1 yK_nameOf prog_13_method_41_code 2 (some .int) [aI x0, aI x1] M (outI q).1 (outI q).2 := by
  refine con_of iK_nameOf (Nat.le_of_ble_eq_true rfl) ?_
  intro p e s m args below meth c C
  exact lK_nameOf (oK_nameOf hsd l) C x0 x1 M _ hq
theorem kK_nameOf {E : EV} (hsd : E.2.2.2 = 1) (l : Launch) {β : Type} : DenOK E l 1 yK_nameOf prog_13_method_41_code 2 (some .int) true (dK_nameOf (β := β)) := by
  intro as M k res h
  unfold dK_nameOf at h
  split at h
  · obtain ⟨q, hq, hk⟩ := Option.bind_eq_some_iff.mp h
    exact ⟨aI q.1, q.2, hk, rfl, wK_nameOf hsd l _ _ M q hq⟩
  · cases h
/-! ===== FreeLancesModel.lays(I)V ===== -/
abbrev yK_lays : MethodName := ⟨"FreeLancesModel", "lays", "(I)V"⟩
theorem iK_lays : MI yK_lays prog_13_method_43_code 2 none 1 := ⟨tw1499, tw108, ⟨by decide, by decide⟩, by decide +kernel, by decide, by decide⟩
def cK_lays : List (Ent Mem) := [(false, 0, 1, sLdA 0),
  (false, 1, 3, sGet 40 (fun w i M => aR (47, 0, 0))),
  (false, 4, 1, sLdA 0),
  (false, 5, 3, sGet 40 (fun w i M => aI (M 40 w i 10))),
  (false, 8, 1, sLdI 1),
  (false, 9, 1, sIast 47 50),
  (false, 10, 1, sLdA 0),
  (false, 11, 1, sDup),
  (false, 12, 3, sGet 40 (fun w i M => aI (M 40 w i 10))),
  (false, 15, 1, sC 1),
  (false, 16, 1, sBin (fun x y => x + y)),
  (false, 17, 3, sPut 40 10),
  (false, 20, 1, sRetV)]
theorem oK_lays {E : EV} (hsd : E.2.2.2 = 1) (l : Launch) : AllOK E l 1 "FreeLancesModel" prog_13_method_43_code 2 none outV (cK_lays) := by
  refine ak (ok_aload_n (k := 0) rfl (by decide +kernel)) ?_
  refine ak (ok_get (k := 6) ck11 kd40 (by decide) (fun _ _ _ => rfl) (vf_40_6 hsd) tw1248 (by decide +kernel)) ?_
  refine ak (ok_aload_n (k := 0) rfl (by decide +kernel)) ?_
  refine ak (ok_get (k := 10) ck11 kd40 (by decide) (fun _ _ _ => rfl) (fun _ _ _ _ _ => trivial) tw1252 (by decide +kernel)) ?_
  refine ak (ok_iload_n (k := 1) rfl (by decide +kernel)) ?_
  refine ak (ok_iast kd47 (by decide) (by decide) (by decide +kernel)) ?_
  refine ak (ok_aload_n (k := 0) rfl (by decide +kernel)) ?_
  refine ak (ok_dup (by decide +kernel)) ?_
  refine ak (ok_get (k := 10) ck11 kd40 (by decide) (fun _ _ _ => rfl) (fun _ _ _ _ _ => trivial) tw1252 (by decide +kernel)) ?_
  refine ak (ok_iconst (n := 1) (by decide) (by decide +kernel)) ?_
  refine ak (ok_iadd (by decide +kernel)) ?_
  refine ak (ok_put (k := 10) ck11 kd40 (by decide) (fun _ _ _ => rfl) rfl rfl (by decide) tw1252 (by decide +kernel)) ?_
  refine ak (ok_return rfl (by decide +kernel)) ?_
  exact trivial
set_option maxRecDepth 1000000 in
theorem eK_lays (x1 : Int32) (M : Mem) : run (cK_lays) (fun _ _ _ _ => none) rtV 400 (seek (cK_lays) 0) [aR (40, 0, 0), aI x1] [] M = mK_lays x1 M := id rfl
theorem lK_lays {E : EV} {l : Launch} {p : Program} {e : Env} {s : State} {m : MethodId} {args : Array Value} {below : List Frame} {meth : Method} {c : Code} (A : AllOK E l 1 "FreeLancesModel" prog_13_method_43_code 2 none outV (cK_lays)) (C : Cx E p s m args meth c "FreeLancesModel" prog_13_method_43_code 2 none) : ∀ (x1 : Int32) (M : Mem) (res : Mem), mK_lays x1 M = some res → Wm E p l e 1 s m args below meth c 2 0 [aR (40, 0, 0), aI x1] [] M (outV res).1 (outV res).2 := by
  intro x1 M res h
  refine run_at C A rfl hrtV (n := 400) ((eK_lays x1 M).trans h) ?_
  intro t als st M hk; cases hk
def dK_lays {β : Type} : Den β := fun as M k => match as with
  | [.inr (.inr (.inl (al0, bl0, cl0))), .inl x1] => if al0 = 40 ∧ bl0 = 0 ∧ cl0 = 0 then (mK_lays x1 M).bind fun q => k aU q else none
  | _ => none
theorem wK_lays {E : EV} (hsd : E.2.2.2 = 1) (l : Launch) (x1 : Int32) (M : Mem) (q : Mem) (hq : mK_lays x1 M = some q) : Con E l 1 yK_lays prog_13_method_43_code 2 none [aR (40, 0, 0), aI x1] M (outV q).1 (outV q).2 := by
  refine con_of iK_lays (Nat.le_of_ble_eq_true rfl) ?_
  intro p e s m args below meth c C
  exact lK_lays (oK_lays hsd l) C x1 M _ hq
theorem kK_lays {E : EV} (hsd : E.2.2.2 = 1) (l : Launch) {β : Type} : DenOK E l 1 yK_lays prog_13_method_43_code 2 none false (dK_lays (β := β)) := by
  intro as M k res h
  unfold dK_lays at h
  split at h
  ·
    split at h
    · rename_i hc
      obtain ⟨rfl, rfl, rfl⟩ := hc
      obtain ⟨q, hq, hk⟩ := Option.bind_eq_some_iff.mp h
      exact ⟨aU, q, hk, rfl, wK_lays hsd l _ M q hq⟩
    · cases h
  · cases h
theorem qK_lays {β : Type} : RecOK 40 (dK_lays (β := β)) := by
  intro as M k res h
  unfold dK_lays at h
  split at h
  ·
    split at h
    · rename_i hc
      obtain ⟨rfl, rfl, rfl⟩ := hc
      exact ⟨_, _, _, rfl⟩
    · cases h
  · cases h
/-! ===== FreeLancesModel.isDigit(I)Z ===== -/
abbrev yK_isDigit : MethodName := ⟨"FreeLancesModel", "isDigit", "(I)Z"⟩
theorem iK_isDigit : MI yK_isDigit prog_13_method_40_code 1 (some .boolean) 1 := ⟨tw1502, tw108, ⟨by decide, by decide⟩, by decide +kernel, by decide, by decide⟩
def cK_isDigit : List (Ent (Int32 × Mem)) := [(false, 0, 1, sLdI 0),
  (false, 1, 2, sC 48),
  (false, 3, 3, sCmpLt 16),
  (false, 6, 1, sLdI 0),
  (false, 7, 2, sC 57),
  (false, 9, 3, sCmpGt 16),
  (false, 12, 1, sC 1),
  (false, 13, 3, sGoto 17),
  (false, 16, 1, sC 0),
  (false, 17, 1, sRetZ)]
theorem oK_isDigit {E : EV} (hsd : E.2.2.2 = 1) (l : Launch) : AllOK E l 1 "FreeLancesModel" prog_13_method_40_code 1 (some .boolean) outI (cK_isDigit) := by
  refine ak (ok_iload_n (k := 0) rfl (by decide +kernel)) ?_
  refine ak (ok_bipush (n := 48) (by decide) (by decide +kernel)) ?_
  refine ak (ok_icmp_lt (off := 13) (by decide) (by decide +kernel)) ?_
  refine ak (ok_iload_n (k := 0) rfl (by decide +kernel)) ?_
  refine ak (ok_bipush (n := 57) (by decide) (by decide +kernel)) ?_
  refine ak (ok_icmp_gt (off := 7) (by decide) (by decide +kernel)) ?_
  refine ak (ok_iconst (n := 1) (by decide) (by decide +kernel)) ?_
  refine ak (ok_goto (off := 4) (by decide) (by decide +kernel)) ?_
  refine ak (ok_iconst (n := 0) (by decide) (by decide +kernel)) ?_
  refine ak (ok_zreturn rfl (by decide +kernel)) ?_
  exact trivial
set_option maxRecDepth 1000000 in
theorem eK_isDigit (x0 : Int32) (M : Mem) : run (cK_isDigit) (fun _ _ _ _ => none) rtI 400 (seek (cK_isDigit) 0) [aI x0] [] M = mK_isDigit x0 M := id rfl
theorem lK_isDigit {E : EV} {l : Launch} {p : Program} {e : Env} {s : State} {m : MethodId} {args : Array Value} {below : List Frame} {meth : Method} {c : Code} (A : AllOK E l 1 "FreeLancesModel" prog_13_method_40_code 1 (some .boolean) outI (cK_isDigit)) (C : Cx E p s m args meth c "FreeLancesModel" prog_13_method_40_code 1 (some .boolean)) : ∀ (x0 : Int32) (M : Mem) (res : (Int32 × Mem)), mK_isDigit x0 M = some res → Wm E p l e 1 s m args below meth c 1 0 [aI x0] [] M (outI res).1 (outI res).2 := by
  intro x0 M res h
  refine run_at C A rfl hrtI (n := 400) ((eK_isDigit x0 M).trans h) ?_
  intro t als st M hk; cases hk
def dK_isDigit {β : Type} : Den β := fun as M k => match as with
  | [.inl x0] => (mK_isDigit x0 M).bind fun q => k (aI q.1) q.2
  | _ => none
theorem wK_isDigit {E : EV} (hsd : E.2.2.2 = 1) (l : Launch) (x0 : Int32) (M : Mem) (q : (Int32 × Mem)) (hq : mK_isDigit x0 M = some q) : Con E l 1 yK_isDigit prog_13_method_40_code 1 (some .boolean) [aI x0] M (outI q).1 (outI q).2 := by
  refine con_of iK_isDigit (Nat.le_of_ble_eq_true rfl) ?_
  intro p e s m args below meth c C
  exact lK_isDigit (oK_isDigit hsd l) C x0 M _ hq
theorem kK_isDigit {E : EV} (hsd : E.2.2.2 = 1) (l : Launch) {β : Type} : DenOK E l 1 yK_isDigit prog_13_method_40_code 1 (some .boolean) true (dK_isDigit (β := β)) := by
  intro as M k res h
  unfold dK_isDigit at h
  split at h
  · obtain ⟨q, hq, hk⟩ := Option.bind_eq_some_iff.mp h
    exact ⟨aI q.1, q.2, hk, rfl, wK_isDigit hsd l _ M q hq⟩
  · cases h
/-! ===== FreeLancesModel.readsOne(I)I ===== -/
abbrev yK_readsOne : MethodName := ⟨"FreeLancesModel", "readsOne", "(I)I"⟩
theorem iK_readsOne : MI yK_readsOne prog_13_method_48_code 5 (some .int) 1 := ⟨tw1488, tw108, ⟨by decide, by decide⟩, by decide +kernel, by decide, by decide⟩
def cK_readsOne : List (Ent (Int32 × Mem)) := [(false, 0, 1, sLdA 0),
  (false, 1, 1, sLdA 0),
  (false, 2, 3, sGet 40 (fun w i M => aI (M 40 w i 12))),
  (false, 5, 3, sInv 2 true dK_byteAt),
  (false, 8, 1, sStI 2),
  (false, 9, 1, sLdI 2),
  (false, 10, 2, sC 33),
  (false, 12, 3, sCmpEq 21),
  (false, 15, 1, sLdI 2),
  (false, 16, 2, sC 40),
  (false, 18, 3, sCmpNe 63),
  (false, 21, 1, sLdA 0),
  (false, 22, 3, sInv 1 true dK_openMany),
  (false, 25, 1, sC 5),
  (false, 26, 3, sCmpNe 31),
  (false, 29, 1, sC 0),
  (false, 30, 1, sRetI),
  (false, 31, 1, sLdA 0),
  (false, 32, 3, sGet 40 (fun w i M => aR (48, 0, 0))),
  (false, 35, 1, sLdA 0),
  (false, 36, 3, sGet 40 (fun w i M => aI (M 40 w i 11))),
  (false, 39, 1, sLdI 2),
  (false, 40, 1, sIast 48 50),
  (false, 41, 1, sLdA 0),
  (false, 42, 1, sDup),
  (false, 43, 3, sGet 40 (fun w i M => aI (M 40 w i 11))),
  (false, 46, 1, sC 1),
  (false, 47, 1, sBin (fun x y => x + y)),
  (false, 48, 3, sPut 40 11),
  (false, 51, 1, sLdA 0),
  (false, 52, 1, sDup),
  (false, 53, 3, sGet 40 (fun w i M => aI (M 40 w i 12))),
  (false, 56, 1, sC 1),
  (false, 57, 1, sBin (fun x y => x + y)),
  (false, 58, 3, sPut 40 12),
  (false, 61, 1, sC 2),
  (false, 62, 1, sRetI),
  (false, 63, 1, sLdI 1),
  (false, 64, 1, sLdI 2),
  (false, 65, 3, sInv 2 true dK_nameOf),
  (false, 68, 3, sIfLe 93),
  (false, 71, 1, sLdA 0),
  (false, 72, 1, sLdI 1),
  (false, 73, 1, sLdI 2),
  (false, 74, 3, sInv 2 true dK_nameOf),
  (false, 77, 1, sUn (fun x => -x)),
  (false, 78, 3, sInv 2 false dK_lays),
  (false, 81, 1, sLdA 0),
  (false, 82, 1, sDup),
  (false, 83, 3, sGet 40 (fun w i M => aI (M 40 w i 12))),
  (false, 86, 1, sC 1),
  (false, 87, 1, sBin (fun x y => x + y)),
  (false, 88, 3, sPut 40 12),
  (false, 91, 1, sC 1),
  (false, 92, 1, sRetI),
  (false, 93, 1, sC 0),
  (false, 94, 1, sStI 3),
  (false, 95, 1, sLdA 0),
  (false, 96, 3, sGet 40 (fun w i M => aI (M 40 w i 12))),
  (false, 99, 2, sStI 4),
  (true, 101, 1, sLdA 0),
  (false, 102, 1, sLdA 0),
  (false, 103, 3, sGet 40 (fun w i M => aI (M 40 w i 12))),
  (false, 106, 3, sInv 2 true dK_byteAt),
  (false, 109, 3, sInv 1 true dK_isDigit),
  (false, 112, 3, sIfEq 156),
  (false, 115, 1, sLdA 0),
  (false, 116, 3, sGet 40 (fun w i M => aI (M 40 w i 12))),
  (false, 119, 2, sLdI 4),
  (false, 121, 1, sBin (fun x y => x - y)),
  (false, 122, 1, sC 4),
  (false, 123, 3, sCmpGe 156),
  (false, 126, 2, sC 10),
  (false, 128, 1, sLdI 3),
  (false, 129, 1, sBin (fun x y => x * y)),
  (false, 130, 1, sLdA 0),
  (false, 131, 1, sLdA 0),
  (false, 132, 3, sGet 40 (fun w i M => aI (M 40 w i 12))),
  (false, 135, 3, sInv 2 true dK_byteAt),
  (false, 138, 1, sBin (fun x y => x + y)),
  (false, 139, 2, sC 48),
  (false, 141, 1, sBin (fun x y => x - y)),
  (false, 142, 1, sStI 3),
  (false, 143, 1, sLdA 0),
  (false, 144, 1, sDup),
  (false, 145, 3, sGet 40 (fun w i M => aI (M 40 w i 12))),
  (false, 148, 1, sC 1),
  (false, 149, 1, sBin (fun x y => x + y)),
  (false, 150, 3, sPut 40 12),
  (false, 153, 3, sGoto 101),
  (false, 156, 1, sLdA 0),
  (false, 157, 1, sLdI 3),
  (false, 158, 3, sInv 2 false dK_lays),
  (false, 161, 1, sLdA 0),
  (false, 162, 3, sGet 40 (fun w i M => aI (M 40 w i 12))),
  (false, 165, 2, sLdI 4),
  (false, 167, 3, sCmpLe 188),
  (false, 170, 1, sLdA 0),
  (false, 171, 1, sLdA 0),
  (false, 172, 3, sGet 40 (fun w i M => aI (M 40 w i 12))),
  (false, 175, 3, sInv 2 true dK_byteAt),
  (false, 178, 3, sInv 1 true dK_isDigit),
  (false, 181, 3, sIfNe 188),
  (false, 184, 1, sC 1),
  (false, 185, 3, sGoto 189),
  (false, 188, 1, sC 0),
  (false, 189, 1, sRetI)]
theorem oK_readsOne {E : EV} (hsd : E.2.2.2 = 1) (l : Launch) : AllOK E l 2 "FreeLancesModel" prog_13_method_48_code 5 (some .int) outI (cK_readsOne) := by
  refine ak (ok_aload_n (k := 0) rfl (by decide +kernel)) ?_
  refine ak (ok_aload_n (k := 0) rfl (by decide +kernel)) ?_
  refine ak (ok_get (k := 12) ck11 kd40 (by decide) (fun _ _ _ => rfl) (fun _ _ _ _ _ => trivial) tw1254 (by decide +kernel)) ?_
  refine ak (ok_invV (r := 40) (kK_byteAt hsd l) qK_byteAt ck11 kd40 iK_byteAt tw1483 tw57 (by decide) tw1481 (by decide +kernel)) ?_
  refine ak (ok_istore_n (k := 2) rfl (by decide) (by decide +kernel)) ?_
  refine ak (ok_iload_n (k := 2) rfl (by decide +kernel)) ?_
  refine ak (ok_bipush (n := 33) (by decide) (by decide +kernel)) ?_
  refine ak (ok_icmp_eq (off := 9) (by decide) (by decide +kernel)) ?_
  refine ak (ok_iload_n (k := 2) rfl (by decide +kernel)) ?_
  refine ak (ok_bipush (n := 40) (by decide) (by decide +kernel)) ?_
  refine ak (ok_icmp_ne (off := 45) (by decide) (by decide +kernel)) ?_
  refine ak (ok_aload_n (k := 0) rfl (by decide +kernel)) ?_
  refine ak (ok_invV (r := 40) (kK_openMany hsd l) qK_openMany ck11 kd40 iK_openMany tw1491 tw59 (by decide) tw1489 (by decide +kernel)) ?_
  refine ak (ok_iconst (n := 5) (by decide) (by decide +kernel)) ?_
  refine ak (ok_icmp_ne (off := 5) (by decide) (by decide +kernel)) ?_
  refine ak (ok_iconst (n := 0) (by decide) (by decide +kernel)) ?_
  refine ak (ok_ireturn rfl (by decide +kernel)) ?_
  refine ak (ok_aload_n (k := 0) rfl (by decide +kernel)) ?_
  refine ak (ok_get (k := 7) ck11 kd40 (by decide) (fun _ _ _ => rfl) (vf_40_7 hsd) tw1249 (by decide +kernel)) ?_
  refine ak (ok_aload_n (k := 0) rfl (by decide +kernel)) ?_
  refine ak (ok_get (k := 11) ck11 kd40 (by decide) (fun _ _ _ => rfl) (fun _ _ _ _ _ => trivial) tw1253 (by decide +kernel)) ?_
  refine ak (ok_iload_n (k := 2) rfl (by decide +kernel)) ?_
  refine ak (ok_iast kd48 (by decide) (by decide) (by decide +kernel)) ?_
  refine ak (ok_aload_n (k := 0) rfl (by decide +kernel)) ?_
  refine ak (ok_dup (by decide +kernel)) ?_
  refine ak (ok_get (k := 11) ck11 kd40 (by decide) (fun _ _ _ => rfl) (fun _ _ _ _ _ => trivial) tw1253 (by decide +kernel)) ?_
  refine ak (ok_iconst (n := 1) (by decide) (by decide +kernel)) ?_
  refine ak (ok_iadd (by decide +kernel)) ?_
  refine ak (ok_put (k := 11) ck11 kd40 (by decide) (fun _ _ _ => rfl) rfl rfl (by decide) tw1253 (by decide +kernel)) ?_
  refine ak (ok_aload_n (k := 0) rfl (by decide +kernel)) ?_
  refine ak (ok_dup (by decide +kernel)) ?_
  refine ak (ok_get (k := 12) ck11 kd40 (by decide) (fun _ _ _ => rfl) (fun _ _ _ _ _ => trivial) tw1254 (by decide +kernel)) ?_
  refine ak (ok_iconst (n := 1) (by decide) (by decide +kernel)) ?_
  refine ak (ok_iadd (by decide +kernel)) ?_
  refine ak (ok_put (k := 12) ck11 kd40 (by decide) (fun _ _ _ => rfl) rfl rfl (by decide) tw1254 (by decide +kernel)) ?_
  refine ak (ok_iconst (n := 2) (by decide) (by decide +kernel)) ?_
  refine ak (ok_ireturn rfl (by decide +kernel)) ?_
  refine ak (ok_iload_n (k := 1) rfl (by decide +kernel)) ?_
  refine ak (ok_iload_n (k := 2) rfl (by decide +kernel)) ?_
  refine ak (ok_invS (kK_nameOf hsd l) iK_nameOf tw1494 (by decide) tw1493 (by decide +kernel)) ?_
  refine ak (ok_if_le (off := 25) (by decide) (by decide +kernel)) ?_
  refine ak (ok_aload_n (k := 0) rfl (by decide +kernel)) ?_
  refine ak (ok_iload_n (k := 1) rfl (by decide +kernel)) ?_
  refine ak (ok_iload_n (k := 2) rfl (by decide +kernel)) ?_
  refine ak (ok_invS (kK_nameOf hsd l) iK_nameOf tw1494 (by decide) tw1493 (by decide +kernel)) ?_
  refine ak (ok_ineg (by decide +kernel)) ?_
  refine ak (ok_invV (r := 40) (kK_lays hsd l) qK_lays ck11 kd40 iK_lays tw1498 tw60 (by decide) tw1496 (by decide +kernel)) ?_
  refine ak (ok_aload_n (k := 0) rfl (by decide +kernel)) ?_
  refine ak (ok_dup (by decide +kernel)) ?_
  refine ak (ok_get (k := 12) ck11 kd40 (by decide) (fun _ _ _ => rfl) (fun _ _ _ _ _ => trivial) tw1254 (by decide +kernel)) ?_
  refine ak (ok_iconst (n := 1) (by decide) (by decide +kernel)) ?_
  refine ak (ok_iadd (by decide +kernel)) ?_
  refine ak (ok_put (k := 12) ck11 kd40 (by decide) (fun _ _ _ => rfl) rfl rfl (by decide) tw1254 (by decide +kernel)) ?_
  refine ak (ok_iconst (n := 1) (by decide) (by decide +kernel)) ?_
  refine ak (ok_ireturn rfl (by decide +kernel)) ?_
  refine ak (ok_iconst (n := 0) (by decide) (by decide +kernel)) ?_
  refine ak (ok_istore_n (k := 3) rfl (by decide) (by decide +kernel)) ?_
  refine ak (ok_aload_n (k := 0) rfl (by decide +kernel)) ?_
  refine ak (ok_get (k := 12) ck11 kd40 (by decide) (fun _ _ _ => rfl) (fun _ _ _ _ _ => trivial) tw1254 (by decide +kernel)) ?_
  refine ak (ok_istore (by decide) (by decide +kernel)) ?_
  refine ak (ok_aload_n (k := 0) rfl (by decide +kernel)) ?_
  refine ak (ok_aload_n (k := 0) rfl (by decide +kernel)) ?_
  refine ak (ok_get (k := 12) ck11 kd40 (by decide) (fun _ _ _ => rfl) (fun _ _ _ _ _ => trivial) tw1254 (by decide +kernel)) ?_
  refine ak (ok_invV (r := 40) (kK_byteAt hsd l) qK_byteAt ck11 kd40 iK_byteAt tw1483 tw57 (by decide) tw1481 (by decide +kernel)) ?_
  refine ak (ok_invS (kK_isDigit hsd l) iK_isDigit tw1501 (by decide) tw1500 (by decide +kernel)) ?_
  refine ak (ok_if_eq (off := 44) (by decide) (by decide +kernel)) ?_
  refine ak (ok_aload_n (k := 0) rfl (by decide +kernel)) ?_
  refine ak (ok_get (k := 12) ck11 kd40 (by decide) (fun _ _ _ => rfl) (fun _ _ _ _ _ => trivial) tw1254 (by decide +kernel)) ?_
  refine ak (ok_iload (by decide +kernel)) ?_
  refine ak (ok_isub (by decide +kernel)) ?_
  refine ak (ok_iconst (n := 4) (by decide) (by decide +kernel)) ?_
  refine ak (ok_icmp_ge (off := 33) (by decide) (by decide +kernel)) ?_
  refine ak (ok_bipush (n := 10) (by decide) (by decide +kernel)) ?_
  refine ak (ok_iload_n (k := 3) rfl (by decide +kernel)) ?_
  refine ak (ok_imul (by decide +kernel)) ?_
  refine ak (ok_aload_n (k := 0) rfl (by decide +kernel)) ?_
  refine ak (ok_aload_n (k := 0) rfl (by decide +kernel)) ?_
  refine ak (ok_get (k := 12) ck11 kd40 (by decide) (fun _ _ _ => rfl) (fun _ _ _ _ _ => trivial) tw1254 (by decide +kernel)) ?_
  refine ak (ok_invV (r := 40) (kK_byteAt hsd l) qK_byteAt ck11 kd40 iK_byteAt tw1483 tw57 (by decide) tw1481 (by decide +kernel)) ?_
  refine ak (ok_iadd (by decide +kernel)) ?_
  refine ak (ok_bipush (n := 48) (by decide) (by decide +kernel)) ?_
  refine ak (ok_isub (by decide +kernel)) ?_
  refine ak (ok_istore_n (k := 3) rfl (by decide) (by decide +kernel)) ?_
  refine ak (ok_aload_n (k := 0) rfl (by decide +kernel)) ?_
  refine ak (ok_dup (by decide +kernel)) ?_
  refine ak (ok_get (k := 12) ck11 kd40 (by decide) (fun _ _ _ => rfl) (fun _ _ _ _ _ => trivial) tw1254 (by decide +kernel)) ?_
  refine ak (ok_iconst (n := 1) (by decide) (by decide +kernel)) ?_
  refine ak (ok_iadd (by decide +kernel)) ?_
  refine ak (ok_put (k := 12) ck11 kd40 (by decide) (fun _ _ _ => rfl) rfl rfl (by decide) tw1254 (by decide +kernel)) ?_
  refine ak (ok_goto (off := (-52)) (by decide) (by decide +kernel)) ?_
  refine ak (ok_aload_n (k := 0) rfl (by decide +kernel)) ?_
  refine ak (ok_iload_n (k := 3) rfl (by decide +kernel)) ?_
  refine ak (ok_invV (r := 40) (kK_lays hsd l) qK_lays ck11 kd40 iK_lays tw1498 tw60 (by decide) tw1496 (by decide +kernel)) ?_
  refine ak (ok_aload_n (k := 0) rfl (by decide +kernel)) ?_
  refine ak (ok_get (k := 12) ck11 kd40 (by decide) (fun _ _ _ => rfl) (fun _ _ _ _ _ => trivial) tw1254 (by decide +kernel)) ?_
  refine ak (ok_iload (by decide +kernel)) ?_
  refine ak (ok_icmp_le (off := 21) (by decide) (by decide +kernel)) ?_
  refine ak (ok_aload_n (k := 0) rfl (by decide +kernel)) ?_
  refine ak (ok_aload_n (k := 0) rfl (by decide +kernel)) ?_
  refine ak (ok_get (k := 12) ck11 kd40 (by decide) (fun _ _ _ => rfl) (fun _ _ _ _ _ => trivial) tw1254 (by decide +kernel)) ?_
  refine ak (ok_invV (r := 40) (kK_byteAt hsd l) qK_byteAt ck11 kd40 iK_byteAt tw1483 tw57 (by decide) tw1481 (by decide +kernel)) ?_
  refine ak (ok_invS (kK_isDigit hsd l) iK_isDigit tw1501 (by decide) tw1500 (by decide +kernel)) ?_
  refine ak (ok_if_ne (off := 7) (by decide) (by decide +kernel)) ?_
  refine ak (ok_iconst (n := 1) (by decide) (by decide +kernel)) ?_
  refine ak (ok_goto (off := 4) (by decide) (by decide +kernel)) ?_
  refine ak (ok_iconst (n := 0) (by decide) (by decide +kernel)) ?_
  refine ak (ok_ireturn rfl (by decide +kernel)) ?_
  exact trivial
def KK_readsOne_101 (j101 : Int32 → Int32 → Mem → Option (Int32 × Mem)) : Jm (Int32 × Mem) := fun t als st M =>
  if t = 101 then (match als, st with
  | [.inr (.inr (.inl (al0, bl0, cl0))), _, _, .inl x3, .inl x4], [] => if al0 = 40 ∧ bl0 = 0 ∧ cl0 = 0 then j101 x3 x4 M else none
  | _, _ => none) else
  none
set_option maxRecDepth 1000000 in
theorem eK_readsOne_101 (j101 : Int32 → Int32 → Mem → Option (Int32 × Mem)) (x3 : Int32) (x4 : Int32) (M : Mem) (u1 u2 : AV) : run (cK_readsOne) (KK_readsOne_101 j101) rtI 400 (seek (cK_readsOne) 101) [aR (40, 0, 0), u1, u2, aI x3, aI x4] [] M = mK_readsOne_101b j101 x3 x4 M := id rfl
theorem lK_readsOne_101 {E : EV} {l : Launch} {p : Program} {e : Env} {s : State} {m : MethodId} {args : Array Value} {below : List Frame} {meth : Method} {c : Code} (A : AllOK E l 2 "FreeLancesModel" prog_13_method_48_code 5 (some .int) outI (cK_readsOne)) (C : Cx E p s m args meth c "FreeLancesModel" prog_13_method_48_code 5 (some .int)) : ∀ (n : Nat), ∀ (x3 : Int32) (x4 : Int32) (M : Mem) (res : (Int32 × Mem)), mK_readsOne_101 n x3 x4 M = some res → ∀ (u1 u2 : AV), Wm E p l e 2 s m args below meth c 5 101 [aR (40, 0, 0), u1, u2, aI x3, aI x4] [] M (outI res).1 (outI res).2 := by
  intro n
  induction n with
  | zero => intro _ _ M res h; cases h
  | succ n ih =>
    intro x3 x4 M res h u1 u2
    refine run_at C A rfl hrtI (n := 400) ((eK_readsOne_101 (mK_readsOne_101 n) x3 x4 M u1 u2).trans h) ?_
    intro t als st M hk
    unfold KK_readsOne_101 at hk
    split at hk
    · rename_i ht
      subst ht
      split at hk
      · split at hk
        · rename_i hc
          obtain ⟨rfl, rfl, rfl⟩ := hc
          exact ih _ _ _ _ hk _ _
        · cases hk
      · cases hk
    cases hk
def KK_readsOne (j101 : Int32 → Int32 → Mem → Option (Int32 × Mem)) : Jm (Int32 × Mem) := fun t als st M =>
  if t = 101 then (match als, st with
  | [.inr (.inr (.inl (al0, bl0, cl0))), _, _, .inl x3, .inl x4], [] => if al0 = 40 ∧ bl0 = 0 ∧ cl0 = 0 then j101 x3 x4 M else none
  | _, _ => none) else
  none
set_option maxRecDepth 1000000 in
theorem eK_readsOne (j101 : Int32 → Int32 → Mem → Option (Int32 × Mem)) (x1 : Int32) (M : Mem) : run (cK_readsOne) (KK_readsOne j101) rtI 400 (seek (cK_readsOne) 0) [aR (40, 0, 0), aI x1, aU, aU, aU] [] M = mK_readsOneb j101 x1 M := id rfl
theorem lK_readsOne {E : EV} {l : Launch} {p : Program} {e : Env} {s : State} {m : MethodId} {args : Array Value} {below : List Frame} {meth : Method} {c : Code} (A : AllOK E l 2 "FreeLancesModel" prog_13_method_48_code 5 (some .int) outI (cK_readsOne)) (C : Cx E p s m args meth c "FreeLancesModel" prog_13_method_48_code 5 (some .int)) : ∀ (x1 : Int32) (M : Mem) (res : (Int32 × Mem)), mK_readsOne x1 M = some res → Wm E p l e 2 s m args below meth c 5 0 [aR (40, 0, 0), aI x1, aU, aU, aU] [] M (outI res).1 (outI res).2 := by
  intro x1 M res h
  refine run_at C A rfl hrtI (n := 400) ((eK_readsOne (mK_readsOne_101 fuel) x1 M).trans h) ?_
  intro t als st M hk
  unfold KK_readsOne at hk
  split at hk
  · rename_i ht
    subst ht
    split at hk
    · split at hk
      · rename_i hc
        obtain ⟨rfl, rfl, rfl⟩ := hc
        exact lK_readsOne_101 A C _ _ _ _ _ hk _ _
      · cases hk
    · cases hk
  cases hk
def dK_readsOne {β : Type} : Den β := fun as M k => match as with
  | [.inr (.inr (.inl (al0, bl0, cl0))), .inl x1] => if al0 = 40 ∧ bl0 = 0 ∧ cl0 = 0 then (mK_readsOne x1 M).bind fun q => k (aI q.1) q.2 else none
  | _ => none
theorem wK_readsOne {E : EV} (hsd : E.2.2.2 = 1) (l : Launch) (x1 : Int32) (M : Mem) (q : (Int32 × Mem)) (hq : mK_readsOne x1 M = some q) : Con E l 2 yK_readsOne prog_13_method_48_code 5 (some .int) [aR (40, 0, 0), aI x1] M (outI q).1 (outI q).2 := by
  refine con_of iK_readsOne (Nat.le_of_ble_eq_true rfl) ?_
  intro p e s m args below meth c C
  exact lK_readsOne (oK_readsOne hsd l) C x1 M _ hq
theorem kK_readsOne {E : EV} (hsd : E.2.2.2 = 1) (l : Launch) {β : Type} : DenOK E l 2 yK_readsOne prog_13_method_48_code 5 (some .int) true (dK_readsOne (β := β)) := by
  intro as M k res h
  unfold dK_readsOne at h
  split at h
  ·
    split at h
    · rename_i hc
      obtain ⟨rfl, rfl, rfl⟩ := hc
      obtain ⟨q, hq, hk⟩ := Option.bind_eq_some_iff.mp h
      exact ⟨aI q.1, q.2, hk, rfl, wK_readsOne hsd l _ M q hq⟩
    · cases h
  · cases h
theorem qK_readsOne {β : Type} : RecOK 40 (dK_readsOne (β := β)) := by
  intro as M k res h
  unfold dK_readsOne at h
  split at h
  ·
    split at h
    · rename_i hc
      obtain ⟨rfl, rfl, rfl⟩ := hc
      exact ⟨_, _, _, rfl⟩
    · cases h
  · cases h
/-! ===== FreeLancesModel.rankOf(I)I ===== -/
abbrev yK_rankOf : MethodName := ⟨"FreeLancesModel", "rankOf", "(I)I"⟩
theorem iK_rankOf : MI yK_rankOf prog_13_method_42_code 1 (some .int) 1 := ⟨tw1509, tw108, ⟨by decide, by decide⟩, by decide +kernel, by decide, by decide⟩
def cK_rankOf : List (Ent (Int32 × Mem)) := [(false, 0, 1, sLdI 0),
  (false, 1, 83, sSw 94 [(38, 86), (42, 92), (43, 90), (45, 90), (47, 92), (60, 88), (61, 88), (62, 88), (124, 84)]),
  (false, 84, 1, sC 1),
  (false, 85, 1, sRetI),
  (false, 86, 1, sC 2),
  (false, 87, 1, sRetI),
  (false, 88, 1, sC 3),
  (false, 89, 1, sRetI),
  (false, 90, 1, sC 4),
  (false, 91, 1, sRetI),
  (false, 92, 1, sC 5),
  (false, 93, 1, sRetI),
  (false, 94, 1, sLdI 0),
  (false, 95, 2, sC 33),
  (false, 97, 3, sCmpNe 105),
  (false, 100, 2, sC 6),
  (false, 102, 3, sGoto 106),
  (false, 105, 1, sC 0),
  (false, 106, 1, sRetI)]
theorem oK_rankOf {E : EV} (hsd : E.2.2.2 = 1) (l : Launch) : AllOK E l 1 "FreeLancesModel" prog_13_method_42_code 1 (some .int) outI (cK_rankOf) := by
  refine ak (ok_iload_n (k := 0) rfl (by decide +kernel)) ?_
  refine ak (ok_lookup (df := 93) (ps := #[(38, 85), (42, 91), (43, 89), (45, 89), (47, 91), (60, 87), (61, 87), (62, 87), (124, 83)]) (by decide) (by decide) (by decide) (by decide +kernel)) ?_
  refine ak (ok_iconst (n := 1) (by decide) (by decide +kernel)) ?_
  refine ak (ok_ireturn rfl (by decide +kernel)) ?_
  refine ak (ok_iconst (n := 2) (by decide) (by decide +kernel)) ?_
  refine ak (ok_ireturn rfl (by decide +kernel)) ?_
  refine ak (ok_iconst (n := 3) (by decide) (by decide +kernel)) ?_
  refine ak (ok_ireturn rfl (by decide +kernel)) ?_
  refine ak (ok_iconst (n := 4) (by decide) (by decide +kernel)) ?_
  refine ak (ok_ireturn rfl (by decide +kernel)) ?_
  refine ak (ok_iconst (n := 5) (by decide) (by decide +kernel)) ?_
  refine ak (ok_ireturn rfl (by decide +kernel)) ?_
  refine ak (ok_iload_n (k := 0) rfl (by decide +kernel)) ?_
  refine ak (ok_bipush (n := 33) (by decide) (by decide +kernel)) ?_
  refine ak (ok_icmp_ne (off := 8) (by decide) (by decide +kernel)) ?_
  refine ak (ok_bipush (n := 6) (by decide) (by decide +kernel)) ?_
  refine ak (ok_goto (off := 4) (by decide) (by decide +kernel)) ?_
  refine ak (ok_iconst (n := 0) (by decide) (by decide +kernel)) ?_
  refine ak (ok_ireturn rfl (by decide +kernel)) ?_
  exact trivial
set_option maxRecDepth 1000000 in
theorem eK_rankOf (x0 : Int32) (M : Mem) : run (cK_rankOf) (fun _ _ _ _ => none) rtI 400 (seek (cK_rankOf) 0) [aI x0] [] M = mK_rankOf x0 M := id rfl
theorem lK_rankOf {E : EV} {l : Launch} {p : Program} {e : Env} {s : State} {m : MethodId} {args : Array Value} {below : List Frame} {meth : Method} {c : Code} (A : AllOK E l 1 "FreeLancesModel" prog_13_method_42_code 1 (some .int) outI (cK_rankOf)) (C : Cx E p s m args meth c "FreeLancesModel" prog_13_method_42_code 1 (some .int)) : ∀ (x0 : Int32) (M : Mem) (res : (Int32 × Mem)), mK_rankOf x0 M = some res → Wm E p l e 1 s m args below meth c 1 0 [aI x0] [] M (outI res).1 (outI res).2 := by
  intro x0 M res h
  refine run_at C A rfl hrtI (n := 400) ((eK_rankOf x0 M).trans h) ?_
  intro t als st M hk; cases hk
def dK_rankOf {β : Type} : Den β := fun as M k => match as with
  | [.inl x0] => (mK_rankOf x0 M).bind fun q => k (aI q.1) q.2
  | _ => none
theorem wK_rankOf {E : EV} (hsd : E.2.2.2 = 1) (l : Launch) (x0 : Int32) (M : Mem) (q : (Int32 × Mem)) (hq : mK_rankOf x0 M = some q) : Con E l 1 yK_rankOf prog_13_method_42_code 1 (some .int) [aI x0] M (outI q).1 (outI q).2 := by
  refine con_of iK_rankOf (Nat.le_of_ble_eq_true rfl) ?_
  intro p e s m args below meth c C
  exact lK_rankOf (oK_rankOf hsd l) C x0 M _ hq
theorem kK_rankOf {E : EV} (hsd : E.2.2.2 = 1) (l : Launch) {β : Type} : DenOK E l 1 yK_rankOf prog_13_method_42_code 1 (some .int) true (dK_rankOf (β := β)) := by
  intro as M k res h
  unfold dK_rankOf at h
  split at h
  · obtain ⟨q, hq, hk⟩ := Option.bind_eq_some_iff.mp h
    exact ⟨aI q.1, q.2, hk, rfl, wK_rankOf hsd l _ M q hq⟩
  · cases h
/-! ===== FreeLancesModel.settles(I)V ===== -/
abbrev yK_settles : MethodName := ⟨"FreeLancesModel", "settles", "(I)V"⟩
theorem iK_settles : MI yK_settles prog_13_method_44_code 2 none 1 := ⟨tw1506, tw108, ⟨by decide, by decide⟩, by decide +kernel, by decide, by decide⟩
def cK_settles : List (Ent Mem) := [(true, 0, 1, sLdA 0),
  (false, 1, 3, sGet 40 (fun w i M => aI (M 40 w i 11))),
  (false, 4, 3, sIfLe 54),
  (false, 7, 1, sLdA 0),
  (false, 8, 3, sGet 40 (fun w i M => aR (48, 0, 0))),
  (false, 11, 1, sLdA 0),
  (false, 12, 3, sGet 40 (fun w i M => aI (M 40 w i 11))),
  (false, 15, 1, sC 1),
  (false, 16, 1, sBin (fun x y => x - y)),
  (false, 17, 1, sIald 48 50),
  (false, 18, 3, sInv 1 true dK_rankOf),
  (false, 21, 1, sLdI 1),
  (false, 22, 3, sCmpLt 54),
  (false, 25, 1, sLdA 0),
  (false, 26, 1, sDup),
  (false, 27, 3, sGet 40 (fun w i M => aI (M 40 w i 11))),
  (false, 30, 1, sC 1),
  (false, 31, 1, sBin (fun x y => x - y)),
  (false, 32, 3, sPut 40 11),
  (false, 35, 1, sLdA 0),
  (false, 36, 2, sC (-100)),
  (false, 38, 1, sLdA 0),
  (false, 39, 3, sGet 40 (fun w i M => aR (48, 0, 0))),
  (false, 42, 1, sLdA 0),
  (false, 43, 3, sGet 40 (fun w i M => aI (M 40 w i 11))),
  (false, 46, 1, sIald 48 50),
  (false, 47, 1, sBin (fun x y => x - y)),
  (false, 48, 3, sInv 2 false dK_lays),
  (false, 51, 3, sGoto 0),
  (false, 54, 1, sRetV)]
theorem oK_settles {E : EV} (hsd : E.2.2.2 = 1) (l : Launch) : AllOK E l 2 "FreeLancesModel" prog_13_method_44_code 2 none outV (cK_settles) := by
  refine ak (ok_aload_n (k := 0) rfl (by decide +kernel)) ?_
  refine ak (ok_get (k := 11) ck11 kd40 (by decide) (fun _ _ _ => rfl) (fun _ _ _ _ _ => trivial) tw1253 (by decide +kernel)) ?_
  refine ak (ok_if_le (off := 50) (by decide) (by decide +kernel)) ?_
  refine ak (ok_aload_n (k := 0) rfl (by decide +kernel)) ?_
  refine ak (ok_get (k := 7) ck11 kd40 (by decide) (fun _ _ _ => rfl) (vf_40_7 hsd) tw1249 (by decide +kernel)) ?_
  refine ak (ok_aload_n (k := 0) rfl (by decide +kernel)) ?_
  refine ak (ok_get (k := 11) ck11 kd40 (by decide) (fun _ _ _ => rfl) (fun _ _ _ _ _ => trivial) tw1253 (by decide +kernel)) ?_
  refine ak (ok_iconst (n := 1) (by decide) (by decide +kernel)) ?_
  refine ak (ok_isub (by decide +kernel)) ?_
  refine ak (ok_iald kd48 (by decide) (by decide +kernel)) ?_
  refine ak (ok_invS (kK_rankOf hsd l) iK_rankOf tw1508 (by decide) tw1507 (by decide +kernel)) ?_
  refine ak (ok_iload_n (k := 1) rfl (by decide +kernel)) ?_
  refine ak (ok_icmp_lt (off := 32) (by decide) (by decide +kernel)) ?_
  refine ak (ok_aload_n (k := 0) rfl (by decide +kernel)) ?_
  refine ak (ok_dup (by decide +kernel)) ?_
  refine ak (ok_get (k := 11) ck11 kd40 (by decide) (fun _ _ _ => rfl) (fun _ _ _ _ _ => trivial) tw1253 (by decide +kernel)) ?_
  refine ak (ok_iconst (n := 1) (by decide) (by decide +kernel)) ?_
  refine ak (ok_isub (by decide +kernel)) ?_
  refine ak (ok_put (k := 11) ck11 kd40 (by decide) (fun _ _ _ => rfl) rfl rfl (by decide) tw1253 (by decide +kernel)) ?_
  refine ak (ok_aload_n (k := 0) rfl (by decide +kernel)) ?_
  refine ak (ok_bipush (n := (-100)) (by decide) (by decide +kernel)) ?_
  refine ak (ok_aload_n (k := 0) rfl (by decide +kernel)) ?_
  refine ak (ok_get (k := 7) ck11 kd40 (by decide) (fun _ _ _ => rfl) (vf_40_7 hsd) tw1249 (by decide +kernel)) ?_
  refine ak (ok_aload_n (k := 0) rfl (by decide +kernel)) ?_
  refine ak (ok_get (k := 11) ck11 kd40 (by decide) (fun _ _ _ => rfl) (fun _ _ _ _ _ => trivial) tw1253 (by decide +kernel)) ?_
  refine ak (ok_iald kd48 (by decide) (by decide +kernel)) ?_
  refine ak (ok_isub (by decide +kernel)) ?_
  refine ak (ok_invV (r := 40) (kK_lays hsd l) qK_lays ck11 kd40 iK_lays tw1498 tw60 (by decide) tw1496 (by decide +kernel)) ?_
  refine ak (ok_goto (off := (-51)) (by decide) (by decide +kernel)) ?_
  refine ak (ok_return rfl (by decide +kernel)) ?_
  exact trivial
def KK_settles_0 (j0 : Int32 → Mem → Option Mem) : Jm Mem := fun t als st M =>
  if t = 0 then (match als, st with
  | [.inr (.inr (.inl (al0, bl0, cl0))), .inl x1], [] => if al0 = 40 ∧ bl0 = 0 ∧ cl0 = 0 then j0 x1 M else none
  | _, _ => none) else
  none
set_option maxRecDepth 1000000 in
theorem eK_settles_0 (j0 : Int32 → Mem → Option Mem) (x1 : Int32) (M : Mem) : run (cK_settles) (KK_settles_0 j0) rtV 400 (seek (cK_settles) 0) [aR (40, 0, 0), aI x1] [] M = mK_settles_0b j0 x1 M := id rfl
theorem lK_settles_0 {E : EV} {l : Launch} {p : Program} {e : Env} {s : State} {m : MethodId} {args : Array Value} {below : List Frame} {meth : Method} {c : Code} (A : AllOK E l 2 "FreeLancesModel" prog_13_method_44_code 2 none outV (cK_settles)) (C : Cx E p s m args meth c "FreeLancesModel" prog_13_method_44_code 2 none) : ∀ (n : Nat), ∀ (x1 : Int32) (M : Mem) (res : Mem), mK_settles_0 n x1 M = some res → Wm E p l e 2 s m args below meth c 2 0 [aR (40, 0, 0), aI x1] [] M (outV res).1 (outV res).2 := by
  intro n
  induction n with
  | zero => intro _ M res h; cases h
  | succ n ih =>
    intro x1 M res h
    refine run_at C A rfl hrtV (n := 400) ((eK_settles_0 (mK_settles_0 n) x1 M).trans h) ?_
    intro t als st M hk
    unfold KK_settles_0 at hk
    split at hk
    · rename_i ht
      subst ht
      split at hk
      · split at hk
        · rename_i hc
          obtain ⟨rfl, rfl, rfl⟩ := hc
          exact ih _ _ _ hk
        · cases hk
      · cases hk
    cases hk
theorem lK_settles {E : EV} {l : Launch} {p : Program} {e : Env} {s : State} {m : MethodId} {args : Array Value} {below : List Frame} {meth : Method} {c : Code} (A : AllOK E l 2 "FreeLancesModel" prog_13_method_44_code 2 none outV (cK_settles)) (C : Cx E p s m args meth c "FreeLancesModel" prog_13_method_44_code 2 none) : ∀ (x1 : Int32) (M : Mem) (res : Mem), mK_settles x1 M = some res → Wm E p l e 2 s m args below meth c 2 0 [aR (40, 0, 0), aI x1] [] M (outV res).1 (outV res).2 := by
  intro x1 M res h
  exact lK_settles_0 A C _ _ _ _ h
def dK_settles {β : Type} : Den β := fun as M k => match as with
  | [.inr (.inr (.inl (al0, bl0, cl0))), .inl x1] => if al0 = 40 ∧ bl0 = 0 ∧ cl0 = 0 then (mK_settles x1 M).bind fun q => k aU q else none
  | _ => none
theorem wK_settles {E : EV} (hsd : E.2.2.2 = 1) (l : Launch) (x1 : Int32) (M : Mem) (q : Mem) (hq : mK_settles x1 M = some q) : Con E l 2 yK_settles prog_13_method_44_code 2 none [aR (40, 0, 0), aI x1] M (outV q).1 (outV q).2 := by
  refine con_of iK_settles (Nat.le_of_ble_eq_true rfl) ?_
  intro p e s m args below meth c C
  exact lK_settles (oK_settles hsd l) C x1 M _ hq
theorem kK_settles {E : EV} (hsd : E.2.2.2 = 1) (l : Launch) {β : Type} : DenOK E l 2 yK_settles prog_13_method_44_code 2 none false (dK_settles (β := β)) := by
  intro as M k res h
  unfold dK_settles at h
  split at h
  ·
    split at h
    · rename_i hc
      obtain ⟨rfl, rfl, rfl⟩ := hc
      obtain ⟨q, hq, hk⟩ := Option.bind_eq_some_iff.mp h
      exact ⟨aU, q, hk, rfl, wK_settles hsd l _ M q hq⟩
    · cases h
  · cases h
theorem qK_settles {β : Type} : RecOK 40 (dK_settles (β := β)) := by
  intro as M k res h
  unfold dK_settles at h
  split at h
  ·
    split at h
    · rename_i hc
      obtain ⟨rfl, rfl, rfl⟩ := hc
      exact ⟨_, _, _, rfl⟩
    · cases h
  · cases h
/-! ===== FreeLancesModel.hasOpen()Z ===== -/
abbrev yK_hasOpen : MethodName := ⟨"FreeLancesModel", "hasOpen", "()Z"⟩
theorem iK_hasOpen : MI yK_hasOpen prog_13_method_47_code 2 (some .boolean) 0 := ⟨tw1513, tw108, ⟨by decide, by decide⟩, by decide +kernel, by decide, by decide⟩
def cK_hasOpen : List (Ent (Int32 × Mem)) := [(false, 0, 1, sC 0),
  (false, 1, 1, sStI 1),
  (true, 2, 1, sLdI 1),
  (false, 3, 1, sLdA 0),
  (false, 4, 3, sGet 40 (fun w i M => aI (M 40 w i 11))),
  (false, 7, 3, sCmpGe 29),
  (false, 10, 1, sLdA 0),
  (false, 11, 3, sGet 40 (fun w i M => aR (48, 0, 0))),
  (false, 14, 1, sLdI 1),
  (false, 15, 1, sIald 48 50),
  (false, 16, 2, sC 40),
  (false, 18, 3, sCmpNe 23),
  (false, 21, 1, sC 1),
  (false, 22, 1, sRetZ),
  (false, 23, 3, sInc 1 1),
  (false, 26, 3, sGoto 2),
  (false, 29, 1, sC 0),
  (false, 30, 1, sRetZ)]
theorem oK_hasOpen {E : EV} (hsd : E.2.2.2 = 1) (l : Launch) : AllOK E l 1 "FreeLancesModel" prog_13_method_47_code 2 (some .boolean) outI (cK_hasOpen) := by
  refine ak (ok_iconst (n := 0) (by decide) (by decide +kernel)) ?_
  refine ak (ok_istore_n (k := 1) rfl (by decide) (by decide +kernel)) ?_
  refine ak (ok_iload_n (k := 1) rfl (by decide +kernel)) ?_
  refine ak (ok_aload_n (k := 0) rfl (by decide +kernel)) ?_
  refine ak (ok_get (k := 11) ck11 kd40 (by decide) (fun _ _ _ => rfl) (fun _ _ _ _ _ => trivial) tw1253 (by decide +kernel)) ?_
  refine ak (ok_icmp_ge (off := 22) (by decide) (by decide +kernel)) ?_
  refine ak (ok_aload_n (k := 0) rfl (by decide +kernel)) ?_
  refine ak (ok_get (k := 7) ck11 kd40 (by decide) (fun _ _ _ => rfl) (vf_40_7 hsd) tw1249 (by decide +kernel)) ?_
  refine ak (ok_iload_n (k := 1) rfl (by decide +kernel)) ?_
  refine ak (ok_iald kd48 (by decide) (by decide +kernel)) ?_
  refine ak (ok_bipush (n := 40) (by decide) (by decide +kernel)) ?_
  refine ak (ok_icmp_ne (off := 5) (by decide) (by decide +kernel)) ?_
  refine ak (ok_iconst (n := 1) (by decide) (by decide +kernel)) ?_
  refine ak (ok_zreturn rfl (by decide +kernel)) ?_
  refine ak (ok_iinc (n := 1) (by decide) (by decide) (by decide +kernel)) ?_
  refine ak (ok_goto (off := (-24)) (by decide) (by decide +kernel)) ?_
  refine ak (ok_iconst (n := 0) (by decide) (by decide +kernel)) ?_
  refine ak (ok_zreturn rfl (by decide +kernel)) ?_
  exact trivial
def KK_hasOpen_2 (j2 : Int32 → Mem → Option (Int32 × Mem)) : Jm (Int32 × Mem) := fun t als st M =>
  if t = 2 then (match als, st with
  | [.inr (.inr (.inl (al0, bl0, cl0))), .inl x1], [] => if al0 = 40 ∧ bl0 = 0 ∧ cl0 = 0 then j2 x1 M else none
  | _, _ => none) else
  none
set_option maxRecDepth 1000000 in
theorem eK_hasOpen_2 (j2 : Int32 → Mem → Option (Int32 × Mem)) (x1 : Int32) (M : Mem) : run (cK_hasOpen) (KK_hasOpen_2 j2) rtI 400 (seek (cK_hasOpen) 2) [aR (40, 0, 0), aI x1] [] M = mK_hasOpen_2b j2 x1 M := id rfl
theorem lK_hasOpen_2 {E : EV} {l : Launch} {p : Program} {e : Env} {s : State} {m : MethodId} {args : Array Value} {below : List Frame} {meth : Method} {c : Code} (A : AllOK E l 1 "FreeLancesModel" prog_13_method_47_code 2 (some .boolean) outI (cK_hasOpen)) (C : Cx E p s m args meth c "FreeLancesModel" prog_13_method_47_code 2 (some .boolean)) : ∀ (n : Nat), ∀ (x1 : Int32) (M : Mem) (res : (Int32 × Mem)), mK_hasOpen_2 n x1 M = some res → Wm E p l e 1 s m args below meth c 2 2 [aR (40, 0, 0), aI x1] [] M (outI res).1 (outI res).2 := by
  intro n
  induction n with
  | zero => intro _ M res h; cases h
  | succ n ih =>
    intro x1 M res h
    refine run_at C A rfl hrtI (n := 400) ((eK_hasOpen_2 (mK_hasOpen_2 n) x1 M).trans h) ?_
    intro t als st M hk
    unfold KK_hasOpen_2 at hk
    split at hk
    · rename_i ht
      subst ht
      split at hk
      · split at hk
        · rename_i hc
          obtain ⟨rfl, rfl, rfl⟩ := hc
          exact ih _ _ _ hk
        · cases hk
      · cases hk
    cases hk
def KK_hasOpen (j2 : Int32 → Mem → Option (Int32 × Mem)) : Jm (Int32 × Mem) := fun t als st M =>
  if t = 2 then (match als, st with
  | [.inr (.inr (.inl (al0, bl0, cl0))), .inl x1], [] => if al0 = 40 ∧ bl0 = 0 ∧ cl0 = 0 then j2 x1 M else none
  | _, _ => none) else
  none
set_option maxRecDepth 1000000 in
theorem eK_hasOpen (j2 : Int32 → Mem → Option (Int32 × Mem)) (M : Mem) : run (cK_hasOpen) (KK_hasOpen j2) rtI 400 (seek (cK_hasOpen) 0) [aR (40, 0, 0), aU] [] M = mK_hasOpenb j2 M := id rfl
theorem lK_hasOpen {E : EV} {l : Launch} {p : Program} {e : Env} {s : State} {m : MethodId} {args : Array Value} {below : List Frame} {meth : Method} {c : Code} (A : AllOK E l 1 "FreeLancesModel" prog_13_method_47_code 2 (some .boolean) outI (cK_hasOpen)) (C : Cx E p s m args meth c "FreeLancesModel" prog_13_method_47_code 2 (some .boolean)) : ∀ (M : Mem) (res : (Int32 × Mem)), mK_hasOpen M = some res → Wm E p l e 1 s m args below meth c 2 0 [aR (40, 0, 0), aU] [] M (outI res).1 (outI res).2 := by
  intro M res h
  refine run_at C A rfl hrtI (n := 400) ((eK_hasOpen (mK_hasOpen_2 fuel) M).trans h) ?_
  intro t als st M hk
  unfold KK_hasOpen at hk
  split at hk
  · rename_i ht
    subst ht
    split at hk
    · split at hk
      · rename_i hc
        obtain ⟨rfl, rfl, rfl⟩ := hc
        exact lK_hasOpen_2 A C _ _ _ _ hk
      · cases hk
    · cases hk
  cases hk
def dK_hasOpen {β : Type} : Den β := fun as M k => match as with
  | [.inr (.inr (.inl (al0, bl0, cl0)))] => if al0 = 40 ∧ bl0 = 0 ∧ cl0 = 0 then (mK_hasOpen M).bind fun q => k (aI q.1) q.2 else none
  | _ => none
theorem wK_hasOpen {E : EV} (hsd : E.2.2.2 = 1) (l : Launch) (M : Mem) (q : (Int32 × Mem)) (hq : mK_hasOpen M = some q) : Con E l 1 yK_hasOpen prog_13_method_47_code 2 (some .boolean) [aR (40, 0, 0)] M (outI q).1 (outI q).2 := by
  refine con_of iK_hasOpen (Nat.le_of_ble_eq_true rfl) ?_
  intro p e s m args below meth c C
  exact lK_hasOpen (oK_hasOpen hsd l) C M _ hq
theorem kK_hasOpen {E : EV} (hsd : E.2.2.2 = 1) (l : Launch) {β : Type} : DenOK E l 1 yK_hasOpen prog_13_method_47_code 2 (some .boolean) true (dK_hasOpen (β := β)) := by
  intro as M k res h
  unfold dK_hasOpen at h
  split at h
  ·
    split at h
    · rename_i hc
      obtain ⟨rfl, rfl, rfl⟩ := hc
      obtain ⟨q, hq, hk⟩ := Option.bind_eq_some_iff.mp h
      exact ⟨aI q.1, q.2, hk, rfl, wK_hasOpen hsd l M q hq⟩
    · cases h
  · cases h
theorem qK_hasOpen {β : Type} : RecOK 40 (dK_hasOpen (β := β)) := by
  intro as M k res h
  unfold dK_hasOpen at h
  split at h
  ·
    split at h
    · rename_i hc
      obtain ⟨rfl, rfl, rfl⟩ := hc
      exact ⟨_, _, _, rfl⟩
    · cases h
  · cases h
/-! ===== FreeLancesModel.isTested()Z ===== -/
abbrev yK_isTested : MethodName := ⟨"FreeLancesModel", "isTested", "()Z"⟩
theorem iK_isTested : MI yK_isTested prog_13_method_46_code 2 (some .boolean) 0 := ⟨tw1517, tw108, ⟨by decide, by decide⟩, by decide +kernel, by decide, by decide⟩
def cK_isTested : List (Ent (Int32 × Mem)) := [(false, 0, 1, sLdA 0),
  (false, 1, 3, sGet 40 (fun w i M => aI (M 40 w i 11))),
  (false, 4, 1, sC 1),
  (false, 5, 1, sBin (fun x y => x - y)),
  (false, 6, 1, sStI 1),
  (true, 7, 1, sLdI 1),
  (false, 8, 3, sIfLt 30),
  (false, 11, 1, sLdA 0),
  (false, 12, 3, sGet 40 (fun w i M => aR (48, 0, 0))),
  (false, 15, 1, sLdI 1),
  (false, 16, 1, sIald 48 50),
  (false, 17, 3, sInv 1 true dK_rankOf),
  (false, 20, 1, sC 3),
  (false, 21, 3, sCmpLe 30),
  (false, 24, 3, sInc 1 (-1)),
  (false, 27, 3, sGoto 7),
  (false, 30, 1, sLdI 1),
  (false, 31, 3, sIfLt 51),
  (false, 34, 1, sLdA 0),
  (false, 35, 3, sGet 40 (fun w i M => aR (48, 0, 0))),
  (false, 38, 1, sLdI 1),
  (false, 39, 1, sIald 48 50),
  (false, 40, 3, sInv 1 true dK_rankOf),
  (false, 43, 1, sC 3),
  (false, 44, 3, sCmpNe 51),
  (false, 47, 1, sC 1),
  (false, 48, 3, sGoto 52),
  (false, 51, 1, sC 0),
  (false, 52, 1, sRetZ)]
theorem oK_isTested {E : EV} (hsd : E.2.2.2 = 1) (l : Launch) : AllOK E l 2 "FreeLancesModel" prog_13_method_46_code 2 (some .boolean) outI (cK_isTested) := by
  refine ak (ok_aload_n (k := 0) rfl (by decide +kernel)) ?_
  refine ak (ok_get (k := 11) ck11 kd40 (by decide) (fun _ _ _ => rfl) (fun _ _ _ _ _ => trivial) tw1253 (by decide +kernel)) ?_
  refine ak (ok_iconst (n := 1) (by decide) (by decide +kernel)) ?_
  refine ak (ok_isub (by decide +kernel)) ?_
  refine ak (ok_istore_n (k := 1) rfl (by decide) (by decide +kernel)) ?_
  refine ak (ok_iload_n (k := 1) rfl (by decide +kernel)) ?_
  refine ak (ok_if_lt (off := 22) (by decide) (by decide +kernel)) ?_
  refine ak (ok_aload_n (k := 0) rfl (by decide +kernel)) ?_
  refine ak (ok_get (k := 7) ck11 kd40 (by decide) (fun _ _ _ => rfl) (vf_40_7 hsd) tw1249 (by decide +kernel)) ?_
  refine ak (ok_iload_n (k := 1) rfl (by decide +kernel)) ?_
  refine ak (ok_iald kd48 (by decide) (by decide +kernel)) ?_
  refine ak (ok_invS (kK_rankOf hsd l) iK_rankOf tw1508 (by decide) tw1507 (by decide +kernel)) ?_
  refine ak (ok_iconst (n := 3) (by decide) (by decide +kernel)) ?_
  refine ak (ok_icmp_le (off := 9) (by decide) (by decide +kernel)) ?_
  refine ak (ok_iinc (n := (-1)) (by decide) (by decide) (by decide +kernel)) ?_
  refine ak (ok_goto (off := (-20)) (by decide) (by decide +kernel)) ?_
  refine ak (ok_iload_n (k := 1) rfl (by decide +kernel)) ?_
  refine ak (ok_if_lt (off := 20) (by decide) (by decide +kernel)) ?_
  refine ak (ok_aload_n (k := 0) rfl (by decide +kernel)) ?_
  refine ak (ok_get (k := 7) ck11 kd40 (by decide) (fun _ _ _ => rfl) (vf_40_7 hsd) tw1249 (by decide +kernel)) ?_
  refine ak (ok_iload_n (k := 1) rfl (by decide +kernel)) ?_
  refine ak (ok_iald kd48 (by decide) (by decide +kernel)) ?_
  refine ak (ok_invS (kK_rankOf hsd l) iK_rankOf tw1508 (by decide) tw1507 (by decide +kernel)) ?_
  refine ak (ok_iconst (n := 3) (by decide) (by decide +kernel)) ?_
  refine ak (ok_icmp_ne (off := 7) (by decide) (by decide +kernel)) ?_
  refine ak (ok_iconst (n := 1) (by decide) (by decide +kernel)) ?_
  refine ak (ok_goto (off := 4) (by decide) (by decide +kernel)) ?_
  refine ak (ok_iconst (n := 0) (by decide) (by decide +kernel)) ?_
  refine ak (ok_zreturn rfl (by decide +kernel)) ?_
  exact trivial
def KK_isTested_7 (j7 : Int32 → Mem → Option (Int32 × Mem)) : Jm (Int32 × Mem) := fun t als st M =>
  if t = 7 then (match als, st with
  | [.inr (.inr (.inl (al0, bl0, cl0))), .inl x1], [] => if al0 = 40 ∧ bl0 = 0 ∧ cl0 = 0 then j7 x1 M else none
  | _, _ => none) else
  none
set_option maxRecDepth 1000000 in
theorem eK_isTested_7 (j7 : Int32 → Mem → Option (Int32 × Mem)) (x1 : Int32) (M : Mem) : run (cK_isTested) (KK_isTested_7 j7) rtI 400 (seek (cK_isTested) 7) [aR (40, 0, 0), aI x1] [] M = mK_isTested_7b j7 x1 M := id rfl
theorem lK_isTested_7 {E : EV} {l : Launch} {p : Program} {e : Env} {s : State} {m : MethodId} {args : Array Value} {below : List Frame} {meth : Method} {c : Code} (A : AllOK E l 2 "FreeLancesModel" prog_13_method_46_code 2 (some .boolean) outI (cK_isTested)) (C : Cx E p s m args meth c "FreeLancesModel" prog_13_method_46_code 2 (some .boolean)) : ∀ (n : Nat), ∀ (x1 : Int32) (M : Mem) (res : (Int32 × Mem)), mK_isTested_7 n x1 M = some res → Wm E p l e 2 s m args below meth c 2 7 [aR (40, 0, 0), aI x1] [] M (outI res).1 (outI res).2 := by
  intro n
  induction n with
  | zero => intro _ M res h; cases h
  | succ n ih =>
    intro x1 M res h
    refine run_at C A rfl hrtI (n := 400) ((eK_isTested_7 (mK_isTested_7 n) x1 M).trans h) ?_
    intro t als st M hk
    unfold KK_isTested_7 at hk
    split at hk
    · rename_i ht
      subst ht
      split at hk
      · split at hk
        · rename_i hc
          obtain ⟨rfl, rfl, rfl⟩ := hc
          exact ih _ _ _ hk
        · cases hk
      · cases hk
    cases hk
def KK_isTested (j7 : Int32 → Mem → Option (Int32 × Mem)) : Jm (Int32 × Mem) := fun t als st M =>
  if t = 7 then (match als, st with
  | [.inr (.inr (.inl (al0, bl0, cl0))), .inl x1], [] => if al0 = 40 ∧ bl0 = 0 ∧ cl0 = 0 then j7 x1 M else none
  | _, _ => none) else
  none
set_option maxRecDepth 1000000 in
theorem eK_isTested (j7 : Int32 → Mem → Option (Int32 × Mem)) (M : Mem) : run (cK_isTested) (KK_isTested j7) rtI 400 (seek (cK_isTested) 0) [aR (40, 0, 0), aU] [] M = mK_isTestedb j7 M := id rfl
theorem lK_isTested {E : EV} {l : Launch} {p : Program} {e : Env} {s : State} {m : MethodId} {args : Array Value} {below : List Frame} {meth : Method} {c : Code} (A : AllOK E l 2 "FreeLancesModel" prog_13_method_46_code 2 (some .boolean) outI (cK_isTested)) (C : Cx E p s m args meth c "FreeLancesModel" prog_13_method_46_code 2 (some .boolean)) : ∀ (M : Mem) (res : (Int32 × Mem)), mK_isTested M = some res → Wm E p l e 2 s m args below meth c 2 0 [aR (40, 0, 0), aU] [] M (outI res).1 (outI res).2 := by
  intro M res h
  refine run_at C A rfl hrtI (n := 400) ((eK_isTested (mK_isTested_7 fuel) M).trans h) ?_
  intro t als st M hk
  unfold KK_isTested at hk
  split at hk
  · rename_i ht
    subst ht
    split at hk
    · split at hk
      · rename_i hc
        obtain ⟨rfl, rfl, rfl⟩ := hc
        exact lK_isTested_7 A C _ _ _ _ hk
      · cases hk
    · cases hk
  cases hk
def dK_isTested {β : Type} : Den β := fun as M k => match as with
  | [.inr (.inr (.inl (al0, bl0, cl0)))] => if al0 = 40 ∧ bl0 = 0 ∧ cl0 = 0 then (mK_isTested M).bind fun q => k (aI q.1) q.2 else none
  | _ => none
theorem wK_isTested {E : EV} (hsd : E.2.2.2 = 1) (l : Launch) (M : Mem) (q : (Int32 × Mem)) (hq : mK_isTested M = some q) : Con E l 2 yK_isTested prog_13_method_46_code 2 (some .boolean) [aR (40, 0, 0)] M (outI q).1 (outI q).2 := by
  refine con_of iK_isTested (Nat.le_of_ble_eq_true rfl) ?_
  intro p e s m args below meth c C
  exact lK_isTested (oK_isTested hsd l) C M _ hq
theorem kK_isTested {E : EV} (hsd : E.2.2.2 = 1) (l : Launch) {β : Type} : DenOK E l 2 yK_isTested prog_13_method_46_code 2 (some .boolean) true (dK_isTested (β := β)) := by
  intro as M k res h
  unfold dK_isTested at h
  split at h
  ·
    split at h
    · rename_i hc
      obtain ⟨rfl, rfl, rfl⟩ := hc
      obtain ⟨q, hq, hk⟩ := Option.bind_eq_some_iff.mp h
      exact ⟨aI q.1, q.2, hk, rfl, wK_isTested hsd l M q hq⟩
    · cases h
  · cases h
theorem qK_isTested {β : Type} : RecOK 40 (dK_isTested (β := β)) := by
  intro as M k res h
  unfold dK_isTested at h
  split at h
  ·
    split at h
    · rename_i hc
      obtain ⟨rfl, rfl, rfl⟩ := hc
      exact ⟨_, _, _, rfl⟩
    · cases h
  · cases h
