/-! ===== FreeLances$Company.show(LFreeLances$Sheet;)V ===== -/
abbrev yC_show : MethodName := ⟨"FreeLances$Company", "show", "(LFreeLances$Sheet;)V"⟩
theorem iC_show : MI yC_show prog_3_method_8_code 5 none 1 := ⟨tw930, tw101, ⟨by decide, by decide⟩, by decide +kernel, by decide, by decide⟩
def cC_show : List (Ent Mem) := [(false, 0, 1, sC 0),
  (false, 1, 1, sStI 2),
  (true, 2, 1, sLdI 2),
  (false, 3, 2, sC 12),
  (false, 5, 3, sCmpGe 70),
  (false, 8, 1, sLdI 2),
  (false, 9, 1, sLdA 0),
  (false, 10, 3, sGet 6 (fun w i M => aI (M 6 w i 11))),
  (false, 13, 3, sCmpGe 25),
  (false, 16, 1, sLdA 0),
  (false, 17, 3, sGet 6 (fun w i M => aR (7, w, i))),
  (false, 20, 1, sLdI 2),
  (false, 21, 1, sIald 7 12),
  (false, 22, 3, sGoto 26),
  (false, 25, 1, sC (-1)),
  (true, 26, 1, sStI 3),
  (false, 27, 1, sLdI 2),
  (false, 28, 1, sLdA 1),
  (false, 29, 3, sGet 19 (fun w i M => aI (M 19 w i 1))),
  (false, 32, 3, sCmpGe 44),
  (false, 35, 1, sLdA 1),
  (false, 36, 3, sGet 19 (fun w i M => aR (20, w, i))),
  (false, 39, 1, sLdI 2),
  (false, 40, 1, sIald 20 24),
  (false, 41, 3, sGoto 45),
  (false, 44, 1, sC (-1)),
  (false, 45, 2, sStI 4),
  (false, 47, 1, sLdA 0),
  (false, 48, 3, sGet 6 (fun w i M => aR (7, w, i))),
  (false, 51, 1, sLdI 2),
  (false, 52, 2, sLdI 4),
  (false, 54, 3, sIfLt 62),
  (false, 57, 2, sLdI 4),
  (false, 59, 3, sGoto 63),
  (false, 62, 1, sLdI 3),
  (false, 63, 1, sIast 7 12),
  (false, 64, 3, sInc 2 1),
  (false, 67, 3, sGoto 2),
  (false, 70, 1, sLdA 0),
  (false, 71, 1, sLdA 1),
  (false, 72, 3, sGet 19 (fun w i M => aI (M 19 w i 1))),
  (false, 75, 2, sC 12),
  (false, 77, 3, sMin),
  (false, 80, 3, sPut 6 11),
  (false, 83, 1, sRetV)]
theorem oC_show {E : EV} (hsd : E.2.2.2 = 0) (l : Launch) : AllOK E l 1 "FreeLances$Company" prog_3_method_8_code 5 none outV (cC_show) := by
  refine ak (ok_iconst (n := 0) (by decide) (by decide +kernel)) ?_
  refine ak (ok_istore_n (k := 2) rfl (by decide) (by decide +kernel)) ?_
  refine ak (ok_iload_n (k := 2) rfl (by decide +kernel)) ?_
  refine ak (ok_bipush (n := 12) (by decide) (by decide +kernel)) ?_
  refine ak (ok_icmp_ge (off := 65) (by decide) (by decide +kernel)) ?_
  refine ak (ok_iload_n (k := 2) rfl (by decide +kernel)) ?_
  refine ak (ok_aload_n (k := 0) rfl (by decide +kernel)) ?_
  refine ak (ok_get (k := 11) ck1 kd6 (by decide) (fun _ _ _ => rfl) (fun _ _ _ _ _ => trivial) tw228 (by decide +kernel)) ?_
  refine ak (ok_icmp_ge (off := 12) (by decide) (by decide +kernel)) ?_
  refine ak (ok_aload_n (k := 0) rfl (by decide +kernel)) ?_
  refine ak (ok_get (k := 12) ck1 kd6 (by decide) (fun _ _ _ => rfl) (vf_6_12 hsd) tw231 (by decide +kernel)) ?_
  refine ak (ok_iload_n (k := 2) rfl (by decide +kernel)) ?_
  refine ak (ok_iald kd7 (by decide) (by decide +kernel)) ?_
  refine ak (ok_goto (off := 4) (by decide) (by decide +kernel)) ?_
  refine ak (ok_iconst (n := (-1)) (by decide) (by decide +kernel)) ?_
  refine ak (ok_istore_n (k := 3) rfl (by decide) (by decide +kernel)) ?_
  refine ak (ok_iload_n (k := 2) rfl (by decide +kernel)) ?_
  refine ak (ok_aload_n (k := 1) rfl (by decide +kernel)) ?_
  refine ak (ok_get (k := 1) ck5 kd19 (by decide) (fun _ _ _ => rfl) (fun _ _ _ _ _ => trivial) tw472 (by decide +kernel)) ?_
  refine ak (ok_icmp_ge (off := 12) (by decide) (by decide +kernel)) ?_
  refine ak (ok_aload_n (k := 1) rfl (by decide +kernel)) ?_
  refine ak (ok_get (k := 2) ck5 kd19 (by decide) (fun _ _ _ => rfl) (vf_19_2 hsd) tw476 (by decide +kernel)) ?_
  refine ak (ok_iload_n (k := 2) rfl (by decide +kernel)) ?_
  refine ak (ok_iald kd20 (by decide) (by decide +kernel)) ?_
  refine ak (ok_goto (off := 4) (by decide) (by decide +kernel)) ?_
  refine ak (ok_iconst (n := (-1)) (by decide) (by decide +kernel)) ?_
  refine ak (ok_istore (by decide) (by decide +kernel)) ?_
  refine ak (ok_aload_n (k := 0) rfl (by decide +kernel)) ?_
  refine ak (ok_get (k := 12) ck1 kd6 (by decide) (fun _ _ _ => rfl) (vf_6_12 hsd) tw231 (by decide +kernel)) ?_
  refine ak (ok_iload_n (k := 2) rfl (by decide +kernel)) ?_
  refine ak (ok_iload (by decide +kernel)) ?_
  refine ak (ok_if_lt (off := 8) (by decide) (by decide +kernel)) ?_
  refine ak (ok_iload (by decide +kernel)) ?_
  refine ak (ok_goto (off := 4) (by decide) (by decide +kernel)) ?_
  refine ak (ok_iload_n (k := 3) rfl (by decide +kernel)) ?_
  refine ak (ok_iast kd7 (by decide) (by decide) (by decide +kernel)) ?_
  refine ak (ok_iinc (n := 1) (by decide) (by decide) (by decide +kernel)) ?_
  refine ak (ok_goto (off := (-65)) (by decide) (by decide +kernel)) ?_
  refine ak (ok_aload_n (k := 0) rfl (by decide +kernel)) ?_
  refine ak (ok_aload_n (k := 1) rfl (by decide +kernel)) ?_
  refine ak (ok_get (k := 1) ck5 kd19 (by decide) (fun _ _ _ => rfl) (fun _ _ _ _ _ => trivial) tw472 (by decide +kernel)) ?_
  refine ak (ok_bipush (n := 12) (by decide) (by decide +kernel)) ?_
  refine ak (ok_mmin (by decide) tw931 tw581 tw109 twMmin (by decide +kernel)) ?_
  refine ak (ok_put (k := 11) ck1 kd6 (by decide) (fun _ _ _ => rfl) rfl rfl (by decide) tw228 (by decide +kernel)) ?_
  refine ak (ok_return rfl (by decide +kernel)) ?_
  exact trivial
def KC_show_26 (j2 : Nat → Nat → Nat → Int32 → Mem → Option Mem) : Jm Mem := fun t als st M =>
  if t = 2 then (match als, st with
  | [.inr (.inr (.inl (al0, w0, i0))), .inr (.inr (.inl (al1, bl1, i1))), .inl x2, _, _], [] => if al0 = 6 ∧ al1 = 19 ∧ bl1 = 0 then j2 w0 i0 i1 x2 M else none
  | _, _ => none) else
  none
set_option maxRecDepth 1000000 in
theorem eC_show_26 (j2 : Nat → Nat → Nat → Int32 → Mem → Option Mem) (w0 : Nat) (i0 : Nat) (i1 : Nat) (x2 : Int32) (y0 : Int32) (M : Mem) (u3 u4 : AV) : run (cC_show) (KC_show_26 j2) rtV 400 (seek (cC_show) 26) [aR (6, w0, i0), aR (19, 0, i1), aI x2, u3, u4] [aI y0] M = mC_show_26b j2 w0 i0 i1 x2 y0 M := id rfl
theorem lC_show_26 {E : EV} {l : Launch} {p : Program} {e : Env} {s : State} {m : MethodId} {args : Array Value} {below : List Frame} {meth : Method} {c : Code} (A : AllOK E l 1 "FreeLances$Company" prog_3_method_8_code 5 none outV (cC_show)) (C : Cx E p s m args meth c "FreeLances$Company" prog_3_method_8_code 5 none) {r2 : Nat → Nat → Nat → Int32 → Mem → Option Mem} (H2 : ∀ (w0 : Nat) (i0 : Nat) (i1 : Nat) (x2 : Int32) (M : Mem) (res : Mem), r2 w0 i0 i1 x2 M = some res → ∀ (u3 u4 : AV), Wm E p l e 1 s m args below meth c 5 2 [aR (6, w0, i0), aR (19, 0, i1), aI x2, u3, u4] [] M (outV res).1 (outV res).2) : ∀ (w0 : Nat) (i0 : Nat) (i1 : Nat) (x2 : Int32) (y0 : Int32) (M : Mem) (res : Mem), mC_show_26 r2 w0 i0 i1 x2 y0 M = some res → ∀ (u3 u4 : AV), Wm E p l e 1 s m args below meth c 5 26 [aR (6, w0, i0), aR (19, 0, i1), aI x2, u3, u4] [aI y0] M (outV res).1 (outV res).2 := by
  intro w0 i0 i1 x2 y0 M res h u3 u4
  refine run_at C A rfl hrtV (n := 400) ((eC_show_26 r2 w0 i0 i1 x2 y0 M u3 u4).trans h) ?_
  intro t als st M hk
  unfold KC_show_26 at hk
  split at hk
  · rename_i ht
    subst ht
    split at hk
    · split at hk
      · rename_i hc
        obtain ⟨rfl, rfl, rfl⟩ := hc
        exact H2 _ _ _ _ _ _ hk _ _
      · cases hk
    · cases hk
  cases hk
def KC_show_2 (j26 : Nat → Nat → Nat → Int32 → Int32 → Mem → Option Mem) : Jm Mem := fun t als st M =>
  if t = 26 then (match als, st with
  | [.inr (.inr (.inl (al0, w0, i0))), .inr (.inr (.inl (al1, bl1, i1))), .inl x2, _, _], [.inl y0] => if al0 = 6 ∧ al1 = 19 ∧ bl1 = 0 then j26 w0 i0 i1 x2 y0 M else none
  | _, _ => none) else
  none
set_option maxRecDepth 1000000 in
theorem eC_show_2 (j26 : Nat → Nat → Nat → Int32 → Int32 → Mem → Option Mem) (w0 : Nat) (i0 : Nat) (i1 : Nat) (x2 : Int32) (M : Mem) (u3 u4 : AV) : run (cC_show) (KC_show_2 j26) rtV 400 (seek (cC_show) 2) [aR (6, w0, i0), aR (19, 0, i1), aI x2, u3, u4] [] M = mC_show_2b j26 w0 i0 i1 x2 M := id rfl
theorem lC_show_2 {E : EV} {l : Launch} {p : Program} {e : Env} {s : State} {m : MethodId} {args : Array Value} {below : List Frame} {meth : Method} {c : Code} (A : AllOK E l 1 "FreeLances$Company" prog_3_method_8_code 5 none outV (cC_show)) (C : Cx E p s m args meth c "FreeLances$Company" prog_3_method_8_code 5 none) : ∀ (n : Nat), ∀ (w0 : Nat) (i0 : Nat) (i1 : Nat) (x2 : Int32) (M : Mem) (res : Mem), mC_show_2 n w0 i0 i1 x2 M = some res → ∀ (u3 u4 : AV), Wm E p l e 1 s m args below meth c 5 2 [aR (6, w0, i0), aR (19, 0, i1), aI x2, u3, u4] [] M (outV res).1 (outV res).2 := by
  intro n
  induction n with
  | zero => intro _ _ _ _ M res h; cases h
  | succ n ih =>
    intro w0 i0 i1 x2 M res h u3 u4
    refine run_at C A rfl hrtV (n := 400) ((eC_show_2 (mC_show_26 (mC_show_2 n)) w0 i0 i1 x2 M u3 u4).trans h) ?_
    intro t als st M hk
    unfold KC_show_2 at hk
    split at hk
    · rename_i ht
      subst ht
      split at hk
      · split at hk
        · rename_i hc
          obtain ⟨rfl, rfl, rfl⟩ := hc
          exact lC_show_26 A C ih _ _ _ _ _ _ _ hk _ _
        · cases hk
      · cases hk
    cases hk
def KC_show (j2 : Nat → Nat → Nat → Int32 → Mem → Option Mem) : Jm Mem := fun t als st M =>
  if t = 2 then (match als, st with
  | [.inr (.inr (.inl (al0, w0, i0))), .inr (.inr (.inl (al1, bl1, i1))), .inl x2, _, _], [] => if al0 = 6 ∧ al1 = 19 ∧ bl1 = 0 then j2 w0 i0 i1 x2 M else none
  | _, _ => none) else
  none
set_option maxRecDepth 1000000 in
theorem eC_show (j2 : Nat → Nat → Nat → Int32 → Mem → Option Mem) (w0 : Nat) (i0 : Nat) (i1 : Nat) (M : Mem) : run (cC_show) (KC_show j2) rtV 400 (seek (cC_show) 0) [aR (6, w0, i0), aR (19, 0, i1), aU, aU, aU] [] M = mC_showb j2 w0 i0 i1 M := id rfl
theorem lC_show {E : EV} {l : Launch} {p : Program} {e : Env} {s : State} {m : MethodId} {args : Array Value} {below : List Frame} {meth : Method} {c : Code} (A : AllOK E l 1 "FreeLances$Company" prog_3_method_8_code 5 none outV (cC_show)) (C : Cx E p s m args meth c "FreeLances$Company" prog_3_method_8_code 5 none) : ∀ (w0 : Nat) (i0 : Nat) (i1 : Nat) (M : Mem) (res : Mem), mC_show w0 i0 i1 M = some res → Wm E p l e 1 s m args below meth c 5 0 [aR (6, w0, i0), aR (19, 0, i1), aU, aU, aU] [] M (outV res).1 (outV res).2 := by
  intro w0 i0 i1 M res h
  refine run_at C A rfl hrtV (n := 400) ((eC_show (mC_show_2 fuel) w0 i0 i1 M).trans h) ?_
  intro t als st M hk
  unfold KC_show at hk
  split at hk
  · rename_i ht
    subst ht
    split at hk
    · split at hk
      · rename_i hc
        obtain ⟨rfl, rfl, rfl⟩ := hc
        exact lC_show_2 A C _ _ _ _ _ _ _ hk _ _
      · cases hk
    · cases hk
  cases hk
def dC_show {β : Type} : Den β := fun as M k => match as with
  | [.inr (.inr (.inl (al0, w0, i0))), .inr (.inr (.inl (al1, bl1, i1)))] => if al0 = 6 ∧ al1 = 19 ∧ bl1 = 0 then (mC_show w0 i0 i1 M).bind fun q => k aU q else none
  | _ => none
theorem wC_show {E : EV} (hsd : E.2.2.2 = 0) (l : Launch) (w0 : Nat) (i0 : Nat) (i1 : Nat) (M : Mem) (q : Mem) (hq : mC_show w0 i0 i1 M = some q) : Con E l 1 yC_show prog_3_method_8_code 5 none [aR (6, w0, i0), aR (19, 0, i1)] M (outV q).1 (outV q).2 := by
  refine con_of iC_show (Nat.le_of_ble_eq_true rfl) ?_
  intro p e s m args below meth c C
  exact lC_show (oC_show hsd l) C w0 i0 i1 M _ hq
theorem kC_show {E : EV} (hsd : E.2.2.2 = 0) (l : Launch) {β : Type} : DenOK E l 1 yC_show prog_3_method_8_code 5 none false (dC_show (β := β)) := by
  intro as M k res h
  unfold dC_show at h
  split at h
  ·
    split at h
    · rename_i hc
      obtain ⟨rfl, rfl, rfl⟩ := hc
      obtain ⟨q, hq, hk⟩ := Option.bind_eq_some_iff.mp h
      exact ⟨aU, q, hk, rfl, wC_show hsd l _ _ _ M q hq⟩
    · cases h
  · cases h
theorem qC_show {β : Type} : RecOK 6 (dC_show (β := β)) := by
  intro as M k res h
  unfold dC_show at h
  split at h
  ·
    split at h
    · rename_i hc
      obtain ⟨rfl, rfl, rfl⟩ := hc
      exact ⟨_, _, _, rfl⟩
    · cases h
  · cases h
/-! ===== FreeLances$Company.shows(II)Z ===== -/
abbrev yC_shows : MethodName := ⟨"FreeLances$Company", "shows", "(II)Z"⟩
theorem iC_shows : MI yC_shows prog_3_method_9_code 4 (some .boolean) 2 := ⟨tw939, tw101, ⟨by decide, by decide⟩, by decide +kernel, by decide, by decide⟩
def cC_shows : List (Ent (Int32 × Mem)) := [(false, 0, 1, sC 0),
  (false, 1, 1, sStI 3),
  (true, 2, 1, sLdI 3),
  (false, 3, 1, sLdI 2),
  (false, 4, 3, sCmpGe 31),
  (false, 7, 1, sLdI 3),
  (false, 8, 2, sC 12),
  (false, 10, 3, sCmpGe 31),
  (false, 13, 1, sLdA 0),
  (false, 14, 3, sGet 6 (fun w i M => aR (7, w, i))),
  (false, 17, 1, sLdI 3),
  (false, 18, 1, sIald 7 12),
  (false, 19, 1, sLdI 1),
  (false, 20, 3, sCmpNe 25),
  (false, 23, 1, sC 1),
  (false, 24, 1, sRetZ),
  (false, 25, 3, sInc 3 1),
  (false, 28, 3, sGoto 2),
  (false, 31, 1, sC 0),
  (false, 32, 1, sRetZ)]
theorem oC_shows {E : EV} (hsd : E.2.2.2 = 0) (l : Launch) : AllOK E l 1 "FreeLances$Company" prog_3_method_9_code 4 (some .boolean) outI (cC_shows) := by
  refine ak (ok_iconst (n := 0) (by decide) (by decide +kernel)) ?_
  refine ak (ok_istore_n (k := 3) rfl (by decide) (by decide +kernel)) ?_
  refine ak (ok_iload_n (k := 3) rfl (by decide +kernel)) ?_
  refine ak (ok_iload_n (k := 2) rfl (by decide +kernel)) ?_
  refine ak (ok_icmp_ge (off := 27) (by decide) (by decide +kernel)) ?_
  refine ak (ok_iload_n (k := 3) rfl (by decide +kernel)) ?_
  refine ak (ok_bipush (n := 12) (by decide) (by decide +kernel)) ?_
  refine ak (ok_icmp_ge (off := 21) (by decide) (by decide +kernel)) ?_
  refine ak (ok_aload_n (k := 0) rfl (by decide +kernel)) ?_
  refine ak (ok_get (k := 12) ck1 kd6 (by decide) (fun _ _ _ => rfl) (vf_6_12 hsd) tw231 (by decide +kernel)) ?_
  refine ak (ok_iload_n (k := 3) rfl (by decide +kernel)) ?_
  refine ak (ok_iald kd7 (by decide) (by decide +kernel)) ?_
  refine ak (ok_iload_n (k := 1) rfl (by decide +kernel)) ?_
  refine ak (ok_icmp_ne (off := 5) (by decide) (by decide +kernel)) ?_
  refine ak (ok_iconst (n := 1) (by decide) (by decide +kernel)) ?_
  refine ak (ok_zreturn rfl (by decide +kernel)) ?_
  refine ak (ok_iinc (n := 1) (by decide) (by decide) (by decide +kernel)) ?_
  refine ak (ok_goto (off := (-26)) (by decide) (by decide +kernel)) ?_
  refine ak (ok_iconst (n := 0) (by decide) (by decide +kernel)) ?_
  refine ak (ok_zreturn rfl (by decide +kernel)) ?_
  exact trivial
def KC_shows_2 (j2 : Nat → Nat → Int32 → Int32 → Int32 → Mem → Option (Int32 × Mem)) : Jm (Int32 × Mem) := fun t als st M =>
  if t = 2 then (match als, st with
  | [.inr (.inr (.inl (al0, w0, i0))), .inl x1, .inl x2, .inl x3], [] => if al0 = 6 then j2 w0 i0 x1 x2 x3 M else none
  | _, _ => none) else
  none
set_option maxRecDepth 1000000 in
theorem eC_shows_2 (j2 : Nat → Nat → Int32 → Int32 → Int32 → Mem → Option (Int32 × Mem)) (w0 : Nat) (i0 : Nat) (x1 : Int32) (x2 : Int32) (x3 : Int32) (M : Mem) : run (cC_shows) (KC_shows_2 j2) rtI 400 (seek (cC_shows) 2) [aR (6, w0, i0), aI x1, aI x2, aI x3] [] M = mC_shows_2b j2 w0 i0 x1 x2 x3 M := id rfl
theorem lC_shows_2 {E : EV} {l : Launch} {p : Program} {e : Env} {s : State} {m : MethodId} {args : Array Value} {below : List Frame} {meth : Method} {c : Code} (A : AllOK E l 1 "FreeLances$Company" prog_3_method_9_code 4 (some .boolean) outI (cC_shows)) (C : Cx E p s m args meth c "FreeLances$Company" prog_3_method_9_code 4 (some .boolean)) : ∀ (n : Nat), ∀ (w0 : Nat) (i0 : Nat) (x1 : Int32) (x2 : Int32) (x3 : Int32) (M : Mem) (res : (Int32 × Mem)), mC_shows_2 n w0 i0 x1 x2 x3 M = some res → Wm E p l e 1 s m args below meth c 4 2 [aR (6, w0, i0), aI x1, aI x2, aI x3] [] M (outI res).1 (outI res).2 := by
  intro n
  induction n with
  | zero => intro _ _ _ _ _ M res h; cases h
  | succ n ih =>
    intro w0 i0 x1 x2 x3 M res h
    refine run_at C A rfl hrtI (n := 400) ((eC_shows_2 (mC_shows_2 n) w0 i0 x1 x2 x3 M).trans h) ?_
    intro t als st M hk
    unfold KC_shows_2 at hk
    split at hk
    · rename_i ht
      subst ht
      split at hk
      · split at hk
        · rename_i hc
          obtain rfl := hc
          exact ih _ _ _ _ _ _ _ hk
        · cases hk
      · cases hk
    cases hk
def KC_shows (j2 : Nat → Nat → Int32 → Int32 → Int32 → Mem → Option (Int32 × Mem)) : Jm (Int32 × Mem) := fun t als st M =>
  if t = 2 then (match als, st with
  | [.inr (.inr (.inl (al0, w0, i0))), .inl x1, .inl x2, .inl x3], [] => if al0 = 6 then j2 w0 i0 x1 x2 x3 M else none
  | _, _ => none) else
  none
set_option maxRecDepth 1000000 in
theorem eC_shows (j2 : Nat → Nat → Int32 → Int32 → Int32 → Mem → Option (Int32 × Mem)) (w0 : Nat) (i0 : Nat) (x1 : Int32) (x2 : Int32) (M : Mem) : run (cC_shows) (KC_shows j2) rtI 400 (seek (cC_shows) 0) [aR (6, w0, i0), aI x1, aI x2, aU] [] M = mC_showsb j2 w0 i0 x1 x2 M := id rfl
theorem lC_shows {E : EV} {l : Launch} {p : Program} {e : Env} {s : State} {m : MethodId} {args : Array Value} {below : List Frame} {meth : Method} {c : Code} (A : AllOK E l 1 "FreeLances$Company" prog_3_method_9_code 4 (some .boolean) outI (cC_shows)) (C : Cx E p s m args meth c "FreeLances$Company" prog_3_method_9_code 4 (some .boolean)) : ∀ (w0 : Nat) (i0 : Nat) (x1 : Int32) (x2 : Int32) (M : Mem) (res : (Int32 × Mem)), mC_shows w0 i0 x1 x2 M = some res → Wm E p l e 1 s m args below meth c 4 0 [aR (6, w0, i0), aI x1, aI x2, aU] [] M (outI res).1 (outI res).2 := by
  intro w0 i0 x1 x2 M res h
  refine run_at C A rfl hrtI (n := 400) ((eC_shows (mC_shows_2 fuel) w0 i0 x1 x2 M).trans h) ?_
  intro t als st M hk
  unfold KC_shows at hk
  split at hk
  · rename_i ht
    subst ht
    split at hk
    · split at hk
      · rename_i hc
        obtain rfl := hc
        exact lC_shows_2 A C _ _ _ _ _ _ _ _ hk
      · cases hk
    · cases hk
  cases hk
def dC_shows {β : Type} : Den β := fun as M k => match as with
  | [.inr (.inr (.inl (al0, w0, i0))), .inl x1, .inl x2] => if al0 = 6 then (mC_shows w0 i0 x1 x2 M).bind fun q => k (aI q.1) q.2 else none
  | _ => none
theorem wC_shows {E : EV} (hsd : E.2.2.2 = 0) (l : Launch) (w0 : Nat) (i0 : Nat) (x1 : Int32) (x2 : Int32) (M : Mem) (q : (Int32 × Mem)) (hq : mC_shows w0 i0 x1 x2 M = some q) : Con E l 1 yC_shows prog_3_method_9_code 4 (some .boolean) [aR (6, w0, i0), aI x1, aI x2] M (outI q).1 (outI q).2 := by
  refine con_of iC_shows (Nat.le_of_ble_eq_true rfl) ?_
  intro p e s m args below meth c C
  exact lC_shows (oC_shows hsd l) C w0 i0 x1 x2 M _ hq
theorem kC_shows {E : EV} (hsd : E.2.2.2 = 0) (l : Launch) {β : Type} : DenOK E l 1 yC_shows prog_3_method_9_code 4 (some .boolean) true (dC_shows (β := β)) := by
  intro as M k res h
  unfold dC_shows at h
  split at h
  ·
    split at h
    · rename_i hc
      obtain rfl := hc
      obtain ⟨q, hq, hk⟩ := Option.bind_eq_some_iff.mp h
      exact ⟨aI q.1, q.2, hk, rfl, wC_shows hsd l _ _ _ _ M q hq⟩
    · cases h
  · cases h
theorem qC_shows {β : Type} : RecOK 6 (dC_shows (β := β)) := by
  intro as M k res h
  unfold dC_shows at h
  split at h
  ·
    split at h
    · rename_i hc
      obtain rfl := hc
      exact ⟨_, _, _, rfl⟩
    · cases h
  · cases h
/-! ===== FreeLances$World.leastOf(II)I ===== -/
abbrev yW_leastOf : MethodName := ⟨"FreeLances$World", "leastOf", "(II)I"⟩
theorem iW_leastOf : MI yW_leastOf prog_11_method_27_code 5 (some .int) 2 := ⟨tw943, tw98, ⟨by decide, by decide⟩, by decide +kernel, by decide, by decide⟩
def cW_leastOf : List (Ent (Int32 × Mem)) := [(false, 0, 1, sC 0),
  (false, 1, 1, sStI 3),
  (true, 2, 1, sLdI 3),
  (false, 3, 1, sLdA 0),
  (false, 4, 3, sGet 1 (fun w i M => aI (M 1 w i 8))),
  (false, 7, 3, sCmpGe 52),
  (false, 10, 1, sLdA 0),
  (false, 11, 3, sGet 1 (fun w i M => aR (9, w, 0))),
  (false, 14, 1, sLdI 3),
  (false, 15, 1, sAald 9 40 10),
  (false, 16, 2, sStA 4),
  (false, 18, 2, sLdA 4),
  (false, 20, 3, sGet 10 (fun w i M => aI (M 10 w i 0))),
  (false, 23, 1, sLdI 1),
  (false, 24, 3, sCmpNe 46),
  (false, 27, 2, sLdA 4),
  (false, 29, 3, sGet 10 (fun w i M => aI (M 10 w i 1))),
  (false, 32, 1, sLdI 2),
  (false, 33, 3, sCmpNe 46),
  (false, 36, 2, sLdA 4),
  (false, 38, 3, sInv 1 true dL_present),
  (false, 41, 3, sIfEq 46),
  (false, 44, 1, sLdI 3),
  (false, 45, 1, sRetI),
  (false, 46, 3, sInc 3 1),
  (false, 49, 3, sGoto 2),
  (false, 52, 1, sC (-1)),
  (false, 53, 1, sRetI)]
theorem oW_leastOf {E : EV} (hsd : E.2.2.2 = 0) (l : Launch) : AllOK E l 2 "FreeLances$World" prog_11_method_27_code 5 (some .int) outI (cW_leastOf) := by
  refine ak (ok_iconst (n := 0) (by decide) (by decide +kernel)) ?_
  refine ak (ok_istore_n (k := 3) rfl (by decide) (by decide +kernel)) ?_
  refine ak (ok_iload_n (k := 3) rfl (by decide +kernel)) ?_
  refine ak (ok_aload_n (k := 0) rfl (by decide +kernel)) ?_
  refine ak (ok_get (k := 8) ck9 kd1 (by decide) (fun _ _ _ => rfl) (fun _ _ _ _ _ => trivial) tw404 (by decide +kernel)) ?_
  refine ak (ok_icmp_ge (off := 45) (by decide) (by decide +kernel)) ?_
  refine ak (ok_aload_n (k := 0) rfl (by decide +kernel)) ?_
  refine ak (ok_get (k := 7) ck9 kd1 (by decide) (fun _ _ _ => rfl) (vf_1_7 hsd) tw402 (by decide +kernel)) ?_
  refine ak (ok_iload_n (k := 3) rfl (by decide +kernel)) ?_
  refine ak (ok_aald (t0 := 4) (C := RX2) kd9 (by decide) rfl (vr_9 hsd) (by decide +kernel)) ?_
  refine ak (ok_astore (by decide) (by decide +kernel)) ?_
  refine ak (ok_aload (by decide +kernel)) ?_
  refine ak (ok_get (k := 0) ck2 kd10 (by decide) (fun _ _ _ => rfl) (fun _ _ _ _ _ => trivial) tw272 (by decide +kernel)) ?_
  refine ak (ok_iload_n (k := 1) rfl (by decide +kernel)) ?_
  refine ak (ok_icmp_ne (off := 22) (by decide) (by decide +kernel)) ?_
  refine ak (ok_aload (by decide +kernel)) ?_
  refine ak (ok_get (k := 1) ck2 kd10 (by decide) (fun _ _ _ => rfl) (fun _ _ _ _ _ => trivial) tw276 (by decide +kernel)) ?_
  refine ak (ok_iload_n (k := 2) rfl (by decide +kernel)) ?_
  refine ak (ok_icmp_ne (off := 13) (by decide) (by decide +kernel)) ?_
  refine ak (ok_aload (by decide +kernel)) ?_
  refine ak (ok_invV (r := 10) (kL_present hsd l) qL_present ck2 kd10 iL_present tw674 tw675 (by decide) tw944 (by decide +kernel)) ?_
  refine ak (ok_if_eq (off := 5) (by decide) (by decide +kernel)) ?_
  refine ak (ok_iload_n (k := 3) rfl (by decide +kernel)) ?_
  refine ak (ok_ireturn rfl (by decide +kernel)) ?_
  refine ak (ok_iinc (n := 1) (by decide) (by decide) (by decide +kernel)) ?_
  refine ak (ok_goto (off := (-47)) (by decide) (by decide +kernel)) ?_
  refine ak (ok_iconst (n := (-1)) (by decide) (by decide +kernel)) ?_
  refine ak (ok_ireturn rfl (by decide +kernel)) ?_
  exact trivial
def KW_leastOf_2 (j2 : Nat → Int32 → Int32 → Int32 → Mem → Option (Int32 × Mem)) : Jm (Int32 × Mem) := fun t als st M =>
  if t = 2 then (match als, st with
  | [.inr (.inr (.inl (al0, w0, cl0))), .inl x1, .inl x2, .inl x3, _], [] => if al0 = 1 ∧ cl0 = 0 then j2 w0 x1 x2 x3 M else none
  | _, _ => none) else
  none
set_option maxRecDepth 1000000 in
theorem eW_leastOf_2 (j2 : Nat → Int32 → Int32 → Int32 → Mem → Option (Int32 × Mem)) (w0 : Nat) (x1 : Int32) (x2 : Int32) (x3 : Int32) (M : Mem) (u4 : AV) : run (cW_leastOf) (KW_leastOf_2 j2) rtI 400 (seek (cW_leastOf) 2) [aR (1, w0, 0), aI x1, aI x2, aI x3, u4] [] M = mW_leastOf_2b j2 w0 x1 x2 x3 M := id rfl
theorem lW_leastOf_2 {E : EV} {l : Launch} {p : Program} {e : Env} {s : State} {m : MethodId} {args : Array Value} {below : List Frame} {meth : Method} {c : Code} (A : AllOK E l 2 "FreeLances$World" prog_11_method_27_code 5 (some .int) outI (cW_leastOf)) (C : Cx E p s m args meth c "FreeLances$World" prog_11_method_27_code 5 (some .int)) : ∀ (n : Nat), ∀ (w0 : Nat) (x1 : Int32) (x2 : Int32) (x3 : Int32) (M : Mem) (res : (Int32 × Mem)), mW_leastOf_2 n w0 x1 x2 x3 M = some res → ∀ (u4 : AV), Wm E p l e 2 s m args below meth c 5 2 [aR (1, w0, 0), aI x1, aI x2, aI x3, u4] [] M (outI res).1 (outI res).2 := by
  intro n
  induction n with
  | zero => intro _ _ _ _ M res h; cases h
  | succ n ih =>
    intro w0 x1 x2 x3 M res h u4
    refine run_at C A rfl hrtI (n := 400) ((eW_leastOf_2 (mW_leastOf_2 n) w0 x1 x2 x3 M u4).trans h) ?_
    intro t als st M hk
    unfold KW_leastOf_2 at hk
    split at hk
    · rename_i ht
      subst ht
      split at hk
      · split at hk
        · rename_i hc
          obtain ⟨rfl, rfl⟩ := hc
          exact ih _ _ _ _ _ _ hk _
        · cases hk
      · cases hk
    cases hk
def KW_leastOf (j2 : Nat → Int32 → Int32 → Int32 → Mem → Option (Int32 × Mem)) : Jm (Int32 × Mem) := fun t als st M =>
  if t = 2 then (match als, st with
  | [.inr (.inr (.inl (al0, w0, cl0))), .inl x1, .inl x2, .inl x3, _], [] => if al0 = 1 ∧ cl0 = 0 then j2 w0 x1 x2 x3 M else none
  | _, _ => none) else
  none
set_option maxRecDepth 1000000 in
theorem eW_leastOf (j2 : Nat → Int32 → Int32 → Int32 → Mem → Option (Int32 × Mem)) (w0 : Nat) (x1 : Int32) (x2 : Int32) (M : Mem) : run (cW_leastOf) (KW_leastOf j2) rtI 400 (seek (cW_leastOf) 0) [aR (1, w0, 0), aI x1, aI x2, aU, aU] [] M = mW_leastOfb j2 w0 x1 x2 M := id rfl
theorem lW_leastOf {E : EV} {l : Launch} {p : Program} {e : Env} {s : State} {m : MethodId} {args : Array Value} {below : List Frame} {meth : Method} {c : Code} (A : AllOK E l 2 "FreeLances$World" prog_11_method_27_code 5 (some .int) outI (cW_leastOf)) (C : Cx E p s m args meth c "FreeLances$World" prog_11_method_27_code 5 (some .int)) : ∀ (w0 : Nat) (x1 : Int32) (x2 : Int32) (M : Mem) (res : (Int32 × Mem)), mW_leastOf w0 x1 x2 M = some res → Wm E p l e 2 s m args below meth c 5 0 [aR (1, w0, 0), aI x1, aI x2, aU, aU] [] M (outI res).1 (outI res).2 := by
  intro w0 x1 x2 M res h
  refine run_at C A rfl hrtI (n := 400) ((eW_leastOf (mW_leastOf_2 fuel) w0 x1 x2 M).trans h) ?_
  intro t als st M hk
  unfold KW_leastOf at hk
  split at hk
  · rename_i ht
    subst ht
    split at hk
    · split at hk
      · rename_i hc
        obtain ⟨rfl, rfl⟩ := hc
        exact lW_leastOf_2 A C _ _ _ _ _ _ _ hk _
      · cases hk
    · cases hk
  cases hk
def dW_leastOf {β : Type} : Den β := fun as M k => match as with
  | [.inr (.inr (.inl (al0, w0, cl0))), .inl x1, .inl x2] => if al0 = 1 ∧ cl0 = 0 then (mW_leastOf w0 x1 x2 M).bind fun q => k (aI q.1) q.2 else none
  | _ => none
theorem wW_leastOf {E : EV} (hsd : E.2.2.2 = 0) (l : Launch) (w0 : Nat) (x1 : Int32) (x2 : Int32) (M : Mem) (q : (Int32 × Mem)) (hq : mW_leastOf w0 x1 x2 M = some q) : Con E l 2 yW_leastOf prog_11_method_27_code 5 (some .int) [aR (1, w0, 0), aI x1, aI x2] M (outI q).1 (outI q).2 := by
  refine con_of iW_leastOf (Nat.le_of_ble_eq_true rfl) ?_
  intro p e s m args below meth c C
  exact lW_leastOf (oW_leastOf hsd l) C w0 x1 x2 M _ hq
theorem kW_leastOf {E : EV} (hsd : E.2.2.2 = 0) (l : Launch) {β : Type} : DenOK E l 2 yW_leastOf prog_11_method_27_code 5 (some .int) true (dW_leastOf (β := β)) := by
  intro as M k res h
  unfold dW_leastOf at h
  split at h
  ·
    split at h
    · rename_i hc
      obtain ⟨rfl, rfl⟩ := hc
      obtain ⟨q, hq, hk⟩ := Option.bind_eq_some_iff.mp h
      exact ⟨aI q.1, q.2, hk, rfl, wW_leastOf hsd l _ _ _ M q hq⟩
    · cases h
  · cases h
theorem qW_leastOf {β : Type} : RecOK 1 (dW_leastOf (β := β)) := by
  intro as M k res h
  unfold dW_leastOf at h
  split at h
  ·
    split at h
    · rename_i hc
      obtain ⟨rfl, rfl⟩ := hc
      exact ⟨_, _, _, rfl⟩
    · cases h
  · cases h
/-! ===== FreeLances$World.counts(I)Z ===== -/
abbrev yW_counts : MethodName := ⟨"FreeLances$World", "counts", "(I)Z"⟩
theorem iW_counts : MI yW_counts prog_11_method_28_code 4 (some .boolean) 1 := ⟨tw948, tw98, ⟨by decide, by decide⟩, by decide +kernel, by decide, by decide⟩
def cW_counts : List (Ent (Int32 × Mem)) := [(false, 0, 1, sLdI 1),
  (false, 1, 3, sIfGe 6),
  (false, 4, 1, sC 0),
  (false, 5, 1, sRetZ),
  (false, 6, 1, sLdA 0),
  (false, 7, 3, sGet 1 (fun w i M => aR (9, w, 0))),
  (false, 10, 1, sLdI 1),
  (false, 11, 1, sAald 9 40 10),
  (false, 12, 1, sStA 2),
  (false, 13, 1, sLdA 0),
  (false, 14, 1, sC 0),
  (false, 15, 1, sLdA 0),
  (false, 16, 3, sGet 1 (fun w i M => aI (M 1 w i 0))),
  (false, 19, 3, sInv 3 true dW_inForce),
  (false, 22, 1, sStI 3),
  (false, 23, 1, sLdI 3),
  (false, 24, 3, sIfGe 40),
  (false, 27, 1, sLdA 2),
  (false, 28, 3, sGet 10 (fun w i M => aI (M 10 w i 3))),
  (false, 31, 3, sIfNe 38),
  (false, 34, 1, sC 1),
  (false, 35, 3, sGoto 39),
  (false, 38, 1, sC 0),
  (false, 39, 1, sRetZ),
  (false, 40, 1, sLdA 0),
  (false, 41, 3, sGet 1 (fun w i M => aR (17, w, 0))),
  (false, 44, 1, sLdA 0),
  (false, 45, 3, sGet 1 (fun w i M => aR (11, w, 0))),
  (false, 48, 1, sLdI 3),
  (false, 49, 1, sAald 11 12 12),
  (false, 50, 1, sLdA 2),
  (false, 51, 3, sGet 10 (fun w i M => aI (M 10 w i 2))),
  (false, 54, 1, sLdA 2),
  (false, 55, 3, sGet 10 (fun w i M => aI (M 10 w i 1))),
  (false, 58, 1, sLdA 2),
  (false, 59, 3, sGet 10 (fun w i M => aI (M 10 w i 3))),
  (false, 62, 3, sInv 5 true dR_workOut),
  (false, 65, 3, sIfEq 72),
  (false, 68, 1, sC 1),
  (false, 69, 3, sGoto 73),
  (false, 72, 1, sC 0),
  (false, 73, 1, sRetZ)]
theorem oW_counts {E : EV} (hsd : E.2.2.2 = 0) (l : Launch) : AllOK E l 64 "FreeLances$World" prog_11_method_28_code 4 (some .boolean) outI (cW_counts) := by
  refine ak (ok_iload_n (k := 1) rfl (by decide +kernel)) ?_
  refine ak (ok_if_ge (off := 5) (by decide) (by decide +kernel)) ?_
  refine ak (ok_iconst (n := 0) (by decide) (by decide +kernel)) ?_
  refine ak (ok_zreturn rfl (by decide +kernel)) ?_
  refine ak (ok_aload_n (k := 0) rfl (by decide +kernel)) ?_
  refine ak (ok_get (k := 7) ck9 kd1 (by decide) (fun _ _ _ => rfl) (vf_1_7 hsd) tw402 (by decide +kernel)) ?_
  refine ak (ok_iload_n (k := 1) rfl (by decide +kernel)) ?_
  refine ak (ok_aald (t0 := 4) (C := RX2) kd9 (by decide) rfl (vr_9 hsd) (by decide +kernel)) ?_
  refine ak (ok_astore_n (k := 2) rfl (by decide) (by decide +kernel)) ?_
  refine ak (ok_aload_n (k := 0) rfl (by decide +kernel)) ?_
  refine ak (ok_iconst (n := 0) (by decide) (by decide +kernel)) ?_
  refine ak (ok_aload_n (k := 0) rfl (by decide +kernel)) ?_
  refine ak (ok_get (k := 0) ck9 kd1 (by decide) (fun _ _ _ => rfl) (fun _ _ _ _ _ => trivial) tw386 (by decide +kernel)) ?_
  refine ak (ok_invV (r := 1) (kW_inForce hsd l) qW_inForce ck9 kd1 iW_inForce tw687 tw688 (by decide) tw686 (by decide +kernel)) ?_
  refine ak (ok_istore_n (k := 3) rfl (by decide) (by decide +kernel)) ?_
  refine ak (ok_iload_n (k := 3) rfl (by decide +kernel)) ?_
  refine ak (ok_if_ge (off := 16) (by decide) (by decide +kernel)) ?_
  refine ak (ok_aload_n (k := 2) rfl (by decide +kernel)) ?_
  refine ak (ok_get (k := 3) ck2 kd10 (by decide) (fun _ _ _ => rfl) (fun _ _ _ _ _ => trivial) tw281 (by decide +kernel)) ?_
  refine ak (ok_if_ne (off := 7) (by decide) (by decide +kernel)) ?_
  refine ak (ok_iconst (n := 1) (by decide) (by decide +kernel)) ?_
  refine ak (ok_goto (off := 4) (by decide) (by decide +kernel)) ?_
  refine ak (ok_iconst (n := 0) (by decide) (by decide +kernel)) ?_
  refine ak (ok_zreturn rfl (by decide +kernel)) ?_
  refine ak (ok_aload_n (k := 0) rfl (by decide +kernel)) ?_
  refine ak (ok_get (k := 17) ck9 kd1 (by decide) (fun _ _ _ => rfl) (vf_1_17 hsd) tw422 (by decide +kernel)) ?_
  refine ak (ok_aload_n (k := 0) rfl (by decide +kernel)) ?_
  refine ak (ok_get (k := 9) ck9 kd1 (by decide) (fun _ _ _ => rfl) (vf_1_9 hsd) tw406 (by decide +kernel)) ?_
  refine ak (ok_iload_n (k := 3) rfl (by decide +kernel)) ?_
  refine ak (ok_aald (t0 := 5) (C := RX6) kd11 (by decide) rfl (vr_11 hsd) (by decide +kernel)) ?_
  refine ak (ok_aload_n (k := 2) rfl (by decide +kernel)) ?_
  refine ak (ok_get (k := 2) ck2 kd10 (by decide) (fun _ _ _ => rfl) (fun _ _ _ _ _ => trivial) tw279 (by decide +kernel)) ?_
  refine ak (ok_aload_n (k := 2) rfl (by decide +kernel)) ?_
  refine ak (ok_get (k := 1) ck2 kd10 (by decide) (fun _ _ _ => rfl) (fun _ _ _ _ _ => trivial) tw276 (by decide +kernel)) ?_
  refine ak (ok_aload_n (k := 2) rfl (by decide +kernel)) ?_
  refine ak (ok_get (k := 3) ck2 kd10 (by decide) (fun _ _ _ => rfl) (fun _ _ _ _ _ => trivial) tw281 (by decide +kernel)) ?_
  refine ak (ok_invV (r := 17) (kR_workOut hsd l) qR_workOut ck4 kd17 iR_workOut tw691 tw692 (by decide) tw690 (by decide +kernel)) ?_
  refine ak (ok_if_eq (off := 7) (by decide) (by decide +kernel)) ?_
  refine ak (ok_iconst (n := 1) (by decide) (by decide +kernel)) ?_
  refine ak (ok_goto (off := 4) (by decide) (by decide +kernel)) ?_
  refine ak (ok_iconst (n := 0) (by decide) (by decide +kernel)) ?_
  refine ak (ok_zreturn rfl (by decide +kernel)) ?_
  exact trivial
set_option maxRecDepth 1000000 in
theorem eW_counts (w0 : Nat) (x1 : Int32) (M : Mem) : run (cW_counts) (fun _ _ _ _ => none) rtI 400 (seek (cW_counts) 0) [aR (1, w0, 0), aI x1, aU, aU] [] M = mW_counts w0 x1 M := id rfl
theorem lW_counts {E : EV} {l : Launch} {p : Program} {e : Env} {s : State} {m : MethodId} {args : Array Value} {below : List Frame} {meth : Method} {c : Code} (A : AllOK E l 64 "FreeLances$World" prog_11_method_28_code 4 (some .boolean) outI (cW_counts)) (C : Cx E p s m args meth c "FreeLances$World" prog_11_method_28_code 4 (some .boolean)) : ∀ (w0 : Nat) (x1 : Int32) (M : Mem) (res : (Int32 × Mem)), mW_counts w0 x1 M = some res → Wm E p l e 64 s m args below meth c 4 0 [aR (1, w0, 0), aI x1, aU, aU] [] M (outI res).1 (outI res).2 := by
  intro w0 x1 M res h
  refine run_at C A rfl hrtI (n := 400) ((eW_counts w0 x1 M).trans h) ?_
  intro t als st M hk; cases hk
def dW_counts {β : Type} : Den β := fun as M k => match as with
  | [.inr (.inr (.inl (al0, w0, cl0))), .inl x1] => if al0 = 1 ∧ cl0 = 0 then (mW_counts w0 x1 M).bind fun q => k (aI q.1) q.2 else none
  | _ => none
theorem wW_counts {E : EV} (hsd : E.2.2.2 = 0) (l : Launch) (w0 : Nat) (x1 : Int32) (M : Mem) (q : (Int32 × Mem)) (hq : mW_counts w0 x1 M = some q) : Con E l 64 yW_counts prog_11_method_28_code 4 (some .boolean) [aR (1, w0, 0), aI x1] M (outI q).1 (outI q).2 := by
  refine con_of iW_counts (Nat.le_of_ble_eq_true rfl) ?_
  intro p e s m args below meth c C
  exact lW_counts (oW_counts hsd l) C w0 x1 M _ hq
theorem kW_counts {E : EV} (hsd : E.2.2.2 = 0) (l : Launch) {β : Type} : DenOK E l 64 yW_counts prog_11_method_28_code 4 (some .boolean) true (dW_counts (β := β)) := by
  intro as M k res h
  unfold dW_counts at h
  split at h
  ·
    split at h
    · rename_i hc
      obtain ⟨rfl, rfl⟩ := hc
      obtain ⟨q, hq, hk⟩ := Option.bind_eq_some_iff.mp h
      exact ⟨aI q.1, q.2, hk, rfl, wW_counts hsd l _ _ M q hq⟩
    · cases h
  · cases h
theorem qW_counts {β : Type} : RecOK 1 (dW_counts (β := β)) := by
  intro as M k res h
  unfold dW_counts at h
  split at h
  ·
    split at h
    · rename_i hc
      obtain ⟨rfl, rfl⟩ := hc
      exact ⟨_, _, _, rfl⟩
    · cases h
  · cases h
/-! ===== FreeLances$World.countShown(I)I ===== -/
abbrev yW_countShown : MethodName := ⟨"FreeLances$World", "countShown", "(I)I"⟩
theorem iW_countShown : MI yW_countShown prog_11_method_26_code 6 (some .int) 1 := ⟨tw935, tw98, ⟨by decide, by decide⟩, by decide +kernel, by decide, by decide⟩
def cW_countShown : List (Ent (Int32 × Mem)) := [(false, 0, 1, sLdA 0),
  (false, 1, 3, sGet 1 (fun w i M => aR (5, w, 0))),
  (false, 4, 1, sLdI 1),
  (false, 5, 1, sAald 5 5 6),
  (false, 6, 1, sStA 2),
  (false, 7, 1, sC 0),
  (false, 8, 1, sStI 3),
  (false, 9, 1, sC 0),
  (false, 10, 2, sStI 4),
  (true, 12, 2, sLdI 4),
  (false, 14, 1, sLdA 2),
  (false, 15, 3, sGet 6 (fun w i M => aI (M 6 w i 11))),
  (false, 18, 3, sCmpGe 69),
  (false, 21, 1, sLdA 2),
  (false, 22, 3, sGet 6 (fun w i M => aR (7, w, i))),
  (false, 25, 2, sLdI 4),
  (false, 27, 1, sIald 7 12),
  (false, 28, 2, sStI 5),
  (false, 30, 2, sLdI 5),
  (false, 32, 3, sIfLt 63),
  (false, 35, 1, sLdA 2),
  (false, 36, 2, sLdI 5),
  (false, 38, 2, sLdI 4),
  (false, 40, 3, sInv 3 true dC_shows),
  (false, 43, 3, sIfNe 63),
  (false, 46, 1, sLdA 0),
  (false, 47, 1, sLdA 0),
  (false, 48, 1, sLdI 1),
  (false, 49, 2, sLdI 5),
  (false, 51, 3, sInv 3 true dW_leastOf),
  (false, 54, 3, sInv 2 true dW_counts),
  (false, 57, 3, sIfEq 63),
  (false, 60, 3, sInc 3 1),
  (false, 63, 3, sInc 4 1),
  (false, 66, 3, sGoto 12),
  (false, 69, 1, sLdI 3),
  (false, 70, 1, sRetI)]
theorem oW_countShown {E : EV} (hsd : E.2.2.2 = 0) (l : Launch) : AllOK E l 65 "FreeLances$World" prog_11_method_26_code 6 (some .int) outI (cW_countShown) := by
  refine ak (ok_aload_n (k := 0) rfl (by decide +kernel)) ?_
  refine ak (ok_get (k := 5) ck9 kd1 (by decide) (fun _ _ _ => rfl) (vf_1_5 hsd) tw396 (by decide +kernel)) ?_
  refine ak (ok_iload_n (k := 1) rfl (by decide +kernel)) ?_
  refine ak (ok_aald (t0 := 3) (C := RX1) kd5 (by decide) rfl (vr_5 hsd) (by decide +kernel)) ?_
  refine ak (ok_astore_n (k := 2) rfl (by decide) (by decide +kernel)) ?_
  refine ak (ok_iconst (n := 0) (by decide) (by decide +kernel)) ?_
  refine ak (ok_istore_n (k := 3) rfl (by decide) (by decide +kernel)) ?_
  refine ak (ok_iconst (n := 0) (by decide) (by decide +kernel)) ?_
  refine ak (ok_istore (by decide) (by decide +kernel)) ?_
  refine ak (ok_iload (by decide +kernel)) ?_
  refine ak (ok_aload_n (k := 2) rfl (by decide +kernel)) ?_
  refine ak (ok_get (k := 11) ck1 kd6 (by decide) (fun _ _ _ => rfl) (fun _ _ _ _ _ => trivial) tw229 (by decide +kernel)) ?_
  refine ak (ok_icmp_ge (off := 51) (by decide) (by decide +kernel)) ?_
  refine ak (ok_aload_n (k := 2) rfl (by decide +kernel)) ?_
  refine ak (ok_get (k := 12) ck1 kd6 (by decide) (fun _ _ _ => rfl) (vf_6_12 hsd) tw232 (by decide +kernel)) ?_
  refine ak (ok_iload (by decide +kernel)) ?_
  refine ak (ok_iald kd7 (by decide) (by decide +kernel)) ?_
  refine ak (ok_istore (by decide) (by decide +kernel)) ?_
  refine ak (ok_iload (by decide +kernel)) ?_
  refine ak (ok_if_lt (off := 31) (by decide) (by decide +kernel)) ?_
  refine ak (ok_aload_n (k := 2) rfl (by decide +kernel)) ?_
  refine ak (ok_iload (by decide +kernel)) ?_
  refine ak (ok_iload (by decide +kernel)) ?_
  refine ak (ok_invV (r := 6) (kC_shows hsd l) qC_shows ck1 kd6 iC_shows tw937 tw938 (by decide) tw936 (by decide +kernel)) ?_
  refine ak (ok_if_ne (off := 20) (by decide) (by decide +kernel)) ?_
  refine ak (ok_aload_n (k := 0) rfl (by decide +kernel)) ?_
  refine ak (ok_aload_n (k := 0) rfl (by decide +kernel)) ?_
  refine ak (ok_iload_n (k := 1) rfl (by decide +kernel)) ?_
  refine ak (ok_iload (by decide +kernel)) ?_
  refine ak (ok_invV (r := 1) (kW_leastOf hsd l) qW_leastOf ck9 kd1 iW_leastOf tw942 tw22 (by decide) tw940 (by decide +kernel)) ?_
  refine ak (ok_invV (r := 1) (kW_counts hsd l) qW_counts ck9 kd1 iW_counts tw947 tw23 (by decide) tw945 (by decide +kernel)) ?_
  refine ak (ok_if_eq (off := 6) (by decide) (by decide +kernel)) ?_
  refine ak (ok_iinc (n := 1) (by decide) (by decide) (by decide +kernel)) ?_
  refine ak (ok_iinc (n := 1) (by decide) (by decide) (by decide +kernel)) ?_
  refine ak (ok_goto (off := (-54)) (by decide) (by decide +kernel)) ?_
  refine ak (ok_iload_n (k := 3) rfl (by decide +kernel)) ?_
  refine ak (ok_ireturn rfl (by decide +kernel)) ?_
  exact trivial
def KW_countShown_12 (j12 : Nat → Int32 → Nat → Nat → Int32 → Int32 → Mem → Option (Int32 × Mem)) : Jm (Int32 × Mem) := fun t als st M =>
  if t = 12 then (match als, st with
  | [.inr (.inr (.inl (al0, w0, cl0))), .inl x1, .inr (.inr (.inl (al2, w2, i2))), .inl x3, .inl x4, _], [] => if al0 = 1 ∧ cl0 = 0 ∧ al2 = 6 then j12 w0 x1 w2 i2 x3 x4 M else none
  | _, _ => none) else
  none
set_option maxRecDepth 1000000 in
theorem eW_countShown_12 (j12 : Nat → Int32 → Nat → Nat → Int32 → Int32 → Mem → Option (Int32 × Mem)) (w0 : Nat) (x1 : Int32) (w2 : Nat) (i2 : Nat) (x3 : Int32) (x4 : Int32) (M : Mem) (u5 : AV) : run (cW_countShown) (KW_countShown_12 j12) rtI 400 (seek (cW_countShown) 12) [aR (1, w0, 0), aI x1, aR (6, w2, i2), aI x3, aI x4, u5] [] M = mW_countShown_12b j12 w0 x1 w2 i2 x3 x4 M := id rfl
theorem lW_countShown_12 {E : EV} {l : Launch} {p : Program} {e : Env} {s : State} {m : MethodId} {args : Array Value} {below : List Frame} {meth : Method} {c : Code} (A : AllOK E l 65 "FreeLances$World" prog_11_method_26_code 6 (some .int) outI (cW_countShown)) (C : Cx E p s m args meth c "FreeLances$World" prog_11_method_26_code 6 (some .int)) : ∀ (n : Nat), ∀ (w0 : Nat) (x1 : Int32) (w2 : Nat) (i2 : Nat) (x3 : Int32) (x4 : Int32) (M : Mem) (res : (Int32 × Mem)), mW_countShown_12 n w0 x1 w2 i2 x3 x4 M = some res → ∀ (u5 : AV), Wm E p l e 65 s m args below meth c 6 12 [aR (1, w0, 0), aI x1, aR (6, w2, i2), aI x3, aI x4, u5] [] M (outI res).1 (outI res).2 := by
  intro n
  induction n with
  | zero => intro _ _ _ _ _ _ M res h; cases h
  | succ n ih =>
    intro w0 x1 w2 i2 x3 x4 M res h u5
    refine run_at C A rfl hrtI (n := 400) ((eW_countShown_12 (mW_countShown_12 n) w0 x1 w2 i2 x3 x4 M u5).trans h) ?_
    intro t als st M hk
    unfold KW_countShown_12 at hk
    split at hk
    · rename_i ht
      subst ht
      split at hk
      · split at hk
        · rename_i hc
          obtain ⟨rfl, rfl, rfl⟩ := hc
          exact ih _ _ _ _ _ _ _ _ hk _
        · cases hk
      · cases hk
    cases hk
def KW_countShown (j12 : Nat → Int32 → Nat → Nat → Int32 → Int32 → Mem → Option (Int32 × Mem)) : Jm (Int32 × Mem) := fun t als st M =>
  if t = 12 then (match als, st with
  | [.inr (.inr (.inl (al0, w0, cl0))), .inl x1, .inr (.inr (.inl (al2, w2, i2))), .inl x3, .inl x4, _], [] => if al0 = 1 ∧ cl0 = 0 ∧ al2 = 6 then j12 w0 x1 w2 i2 x3 x4 M else none
  | _, _ => none) else
  none
set_option maxRecDepth 1000000 in
theorem eW_countShown (j12 : Nat → Int32 → Nat → Nat → Int32 → Int32 → Mem → Option (Int32 × Mem)) (w0 : Nat) (x1 : Int32) (M : Mem) : run (cW_countShown) (KW_countShown j12) rtI 400 (seek (cW_countShown) 0) [aR (1, w0, 0), aI x1, aU, aU, aU, aU] [] M = mW_countShownb j12 w0 x1 M := id rfl
theorem lW_countShown {E : EV} {l : Launch} {p : Program} {e : Env} {s : State} {m : MethodId} {args : Array Value} {below : List Frame} {meth : Method} {c : Code} (A : AllOK E l 65 "FreeLances$World" prog_11_method_26_code 6 (some .int) outI (cW_countShown)) (C : Cx E p s m args meth c "FreeLances$World" prog_11_method_26_code 6 (some .int)) : ∀ (w0 : Nat) (x1 : Int32) (M : Mem) (res : (Int32 × Mem)), mW_countShown w0 x1 M = some res → Wm E p l e 65 s m args below meth c 6 0 [aR (1, w0, 0), aI x1, aU, aU, aU, aU] [] M (outI res).1 (outI res).2 := by
  intro w0 x1 M res h
  refine run_at C A rfl hrtI (n := 400) ((eW_countShown (mW_countShown_12 fuel) w0 x1 M).trans h) ?_
  intro t als st M hk
  unfold KW_countShown at hk
  split at hk
  · rename_i ht
    subst ht
    split at hk
    · split at hk
      · rename_i hc
        obtain ⟨rfl, rfl, rfl⟩ := hc
        exact lW_countShown_12 A C _ _ _ _ _ _ _ _ _ hk _
      · cases hk
    · cases hk
  cases hk
def dW_countShown {β : Type} : Den β := fun as M k => match as with
  | [.inr (.inr (.inl (al0, w0, cl0))), .inl x1] => if al0 = 1 ∧ cl0 = 0 then (mW_countShown w0 x1 M).bind fun q => k (aI q.1) q.2 else none
  | _ => none
theorem wW_countShown {E : EV} (hsd : E.2.2.2 = 0) (l : Launch) (w0 : Nat) (x1 : Int32) (M : Mem) (q : (Int32 × Mem)) (hq : mW_countShown w0 x1 M = some q) : Con E l 65 yW_countShown prog_11_method_26_code 6 (some .int) [aR (1, w0, 0), aI x1] M (outI q).1 (outI q).2 := by
  refine con_of iW_countShown (Nat.le_of_ble_eq_true rfl) ?_
  intro p e s m args below meth c C
  exact lW_countShown (oW_countShown hsd l) C w0 x1 M _ hq
theorem kW_countShown {E : EV} (hsd : E.2.2.2 = 0) (l : Launch) {β : Type} : DenOK E l 65 yW_countShown prog_11_method_26_code 6 (some .int) true (dW_countShown (β := β)) := by
  intro as M k res h
  unfold dW_countShown at h
  split at h
  ·
    split at h
    · rename_i hc
      obtain ⟨rfl, rfl⟩ := hc
      obtain ⟨q, hq, hk⟩ := Option.bind_eq_some_iff.mp h
      exact ⟨aI q.1, q.2, hk, rfl, wW_countShown hsd l _ _ M q hq⟩
    · cases h
  · cases h
theorem qW_countShown {β : Type} : RecOK 1 (dW_countShown (β := β)) := by
  intro as M k res h
  unfold dW_countShown at h
  split at h
  ·
    split at h
    · rename_i hc
      obtain ⟨rfl, rfl⟩ := hc
      exact ⟨_, _, _, rfl⟩
    · cases h
  · cases h
/-! ===== FreeLances.muster(II)I ===== -/
abbrev yF_muster : MethodName := ⟨"FreeLances", "muster", "(II)I"⟩
theorem iF_muster : MI yF_muster prog_1_method_33_code 5 (some .int) 2 := ⟨tw914, tw97, ⟨by decide, by decide⟩, by decide +kernel, by decide, by decide⟩
def cF_muster : List (Ent (Int32 × Mem)) := [(false, 0, 1, sLdA 0),
  (false, 1, 1, sLdI 1),
  (false, 2, 3, sInv 2 true dF_isCompany),
  (false, 5, 3, sIfEq 15),
  (false, 8, 1, sLdI 2),
  (false, 9, 3, sInv 1 true dF_isSheet),
  (false, 12, 3, sIfNe 21),
  (false, 15, 1, sLdA 0),
  (false, 16, 1, sC 1),
  (false, 17, 3, sInv 2 true dF_finding),
  (false, 20, 1, sRetI),
  (false, 21, 1, sLdA 0),
  (false, 22, 3, sGet 0 (fun w i M => aR (18, 0, 0))),
  (false, 25, 1, sLdI 2),
  (false, 26, 1, sAald 18 4 19),
  (false, 27, 1, sStA 3),
  (false, 28, 1, sLdA 3),
  (false, 29, 3, sInv 1 true dS_missing),
  (false, 32, 3, sIfEq 41),
  (false, 35, 1, sLdA 0),
  (false, 36, 1, sC 2),
  (false, 37, 3, sInv 2 true dF_finding),
  (false, 40, 1, sRetI),
  (false, 41, 1, sLdA 0),
  (false, 42, 3, sGet 0 (fun w i M => aR (1, 0, 0))),
  (false, 45, 3, sGet 1 (fun w i M => aR (5, w, 0))),
  (false, 48, 1, sLdI 1),
  (false, 49, 1, sAald 5 5 6),
  (false, 50, 2, sStA 4),
  (false, 52, 2, sLdA 4),
  (false, 54, 3, sInv 1 true dC_marches),
  (false, 57, 3, sIfEq 66),
  (false, 60, 1, sLdA 0),
  (false, 61, 1, sC 3),
  (false, 62, 3, sInv 2 true dF_finding),
  (false, 65, 1, sRetI),
  (false, 66, 1, sLdA 3),
  (false, 67, 3, sGet 19 (fun w i M => aI (M 19 w i 1))),
  (false, 70, 2, sC 12),
  (false, 72, 3, sCmpGt 85),
  (false, 75, 1, sLdA 3),
  (false, 76, 1, sC (-1)),
  (false, 77, 2, sC 99),
  (false, 79, 3, sInv 3 true dS_allWithin),
  (false, 82, 3, sIfNe 91),
  (false, 85, 1, sLdA 0),
  (false, 86, 1, sC 5),
  (false, 87, 3, sInv 2 true dF_finding),
  (false, 90, 1, sRetI),
  (false, 91, 2, sLdA 4),
  (false, 93, 1, sLdA 3),
  (false, 94, 3, sInv 2 false dC_show),
  (false, 97, 2, sLdA 4),
  (false, 99, 1, sLdA 0),
  (false, 100, 3, sGet 0 (fun w i M => aR (1, 0, 0))),
  (false, 103, 3, sGet 1 (fun w i M => aI (M 1 w i 0))),
  (false, 106, 3, sPut 6 9),
  (false, 109, 2, sLdA 4),
  (false, 111, 2, sLdA 4),
  (false, 113, 3, sGet 6 (fun w i M => aI (M 6 w i 3))),
  (false, 116, 3, sPut 6 10),
  (false, 119, 2, sLdA 4),
  (false, 121, 1, sLdA 0),
  (false, 122, 3, sGet 0 (fun w i M => aR (1, 0, 0))),
  (false, 125, 1, sLdI 1),
  (false, 126, 3, sInv 2 true dW_countShown),
  (false, 129, 3, sPut 6 8),
  (false, 132, 2, sLdA 4),
  (false, 134, 3, sGet 6 (fun w i M => aI (M 6 w i 8))),
  (false, 137, 1, sRetI)]
theorem oF_muster {E : EV} (hsd : E.2.2.2 = 0) (l : Launch) : AllOK E l 66 "FreeLances" prog_1_method_33_code 5 (some .int) outI (cF_muster) := by
  refine ak (ok_aload_n (k := 0) rfl (by decide +kernel)) ?_
  refine ak (ok_iload_n (k := 1) rfl (by decide +kernel)) ?_
  refine ak (ok_invV (r := 0) (kF_isCompany hsd l) qF_isCompany ck10 kd0 iF_isCompany tw620 tw2 (by decide) tw618 (by decide +kernel)) ?_
  refine ak (ok_if_eq (off := 10) (by decide) (by decide +kernel)) ?_
  refine ak (ok_iload_n (k := 2) rfl (by decide +kernel)) ?_
  refine ak (ok_invS (kF_isSheet hsd l) iF_isSheet tw916 (by decide) tw915 (by decide +kernel)) ?_
  refine ak (ok_if_ne (off := 9) (by decide) (by decide +kernel)) ?_
  refine ak (ok_aload_n (k := 0) rfl (by decide +kernel)) ?_
  refine ak (ok_iconst (n := 1) (by decide) (by decide +kernel)) ?_
  refine ak (ok_invV (r := 0) (kF_finding hsd l) qF_finding ck10 kd0 iF_finding tw557 tw0 (by decide) tw555 (by decide +kernel)) ?_
  refine ak (ok_ireturn rfl (by decide +kernel)) ?_
  refine ak (ok_aload_n (k := 0) rfl (by decide +kernel)) ?_
  refine ak (ok_get (k := 3) ck10 kd0 (by decide) (fun _ _ _ => rfl) (vf_0_3 hsd) tw525 (by decide +kernel)) ?_
  refine ak (ok_iload_n (k := 2) rfl (by decide +kernel)) ?_
  refine ak (ok_aald (t0 := 7) (C := RX5) kd18 (by decide) rfl (vr_18 hsd) (by decide +kernel)) ?_
  refine ak (ok_astore_n (k := 3) rfl (by decide) (by decide +kernel)) ?_
  refine ak (ok_aload_n (k := 3) rfl (by decide +kernel)) ?_
  refine ak (ok_invV (r := 19) (kS_missing hsd l) qS_missing ck5 kd19 iS_missing tw919 tw920 (by decide) tw918 (by decide +kernel)) ?_
  refine ak (ok_if_eq (off := 9) (by decide) (by decide +kernel)) ?_
  refine ak (ok_aload_n (k := 0) rfl (by decide +kernel)) ?_
  refine ak (ok_iconst (n := 2) (by decide) (by decide +kernel)) ?_
  refine ak (ok_invV (r := 0) (kF_finding hsd l) qF_finding ck10 kd0 iF_finding tw557 tw0 (by decide) tw555 (by decide +kernel)) ?_
  refine ak (ok_ireturn rfl (by decide +kernel)) ?_
  refine ak (ok_aload_n (k := 0) rfl (by decide +kernel)) ?_
  refine ak (ok_get (k := 0) ck10 kd0 (by decide) (fun _ _ _ => rfl) (vf_0_0 hsd) tw522 (by decide +kernel)) ?_
  refine ak (ok_get (k := 5) ck9 kd1 (by decide) (fun _ _ _ => rfl) (vf_1_5 hsd) tw398 (by decide +kernel)) ?_
  refine ak (ok_iload_n (k := 1) rfl (by decide +kernel)) ?_
  refine ak (ok_aald (t0 := 3) (C := RX1) kd5 (by decide) rfl (vr_5 hsd) (by decide +kernel)) ?_
  refine ak (ok_astore (by decide) (by decide +kernel)) ?_
  refine ak (ok_aload (by decide +kernel)) ?_
  refine ak (ok_invV (r := 6) (kC_marches hsd l) qC_marches ck1 kd6 iC_marches tw623 tw624 (by decide) tw622 (by decide +kernel)) ?_
  refine ak (ok_if_eq (off := 9) (by decide) (by decide +kernel)) ?_
  refine ak (ok_aload_n (k := 0) rfl (by decide +kernel)) ?_
  refine ak (ok_iconst (n := 3) (by decide) (by decide +kernel)) ?_
  refine ak (ok_invV (r := 0) (kF_finding hsd l) qF_finding ck10 kd0 iF_finding tw557 tw0 (by decide) tw555 (by decide +kernel)) ?_
  refine ak (ok_ireturn rfl (by decide +kernel)) ?_
  refine ak (ok_aload_n (k := 3) rfl (by decide +kernel)) ?_
  refine ak (ok_get (k := 1) ck5 kd19 (by decide) (fun _ _ _ => rfl) (fun _ _ _ _ _ => trivial) tw473 (by decide +kernel)) ?_
  refine ak (ok_bipush (n := 12) (by decide) (by decide +kernel)) ?_
  refine ak (ok_icmp_gt (off := 13) (by decide) (by decide +kernel)) ?_
  refine ak (ok_aload_n (k := 3) rfl (by decide +kernel)) ?_
  refine ak (ok_iconst (n := (-1)) (by decide) (by decide +kernel)) ?_
  refine ak (ok_bipush (n := 99) (by decide) (by decide +kernel)) ?_
  refine ak (ok_invV (r := 19) (kS_allWithin hsd l) qS_allWithin ck5 kd19 iS_allWithin tw923 tw924 (by decide) tw922 (by decide +kernel)) ?_
  refine ak (ok_if_ne (off := 9) (by decide) (by decide +kernel)) ?_
  refine ak (ok_aload_n (k := 0) rfl (by decide +kernel)) ?_
  refine ak (ok_iconst (n := 5) (by decide) (by decide +kernel)) ?_
  refine ak (ok_invV (r := 0) (kF_finding hsd l) qF_finding ck10 kd0 iF_finding tw557 tw0 (by decide) tw555 (by decide +kernel)) ?_
  refine ak (ok_ireturn rfl (by decide +kernel)) ?_
  refine ak (ok_aload (by decide +kernel)) ?_
  refine ak (ok_aload_n (k := 3) rfl (by decide +kernel)) ?_
  refine ak (ok_invV (r := 6) (kC_show hsd l) qC_show ck1 kd6 iC_show tw928 tw929 (by decide) tw927 (by decide +kernel)) ?_
  refine ak (ok_aload (by decide +kernel)) ?_
  refine ak (ok_aload_n (k := 0) rfl (by decide +kernel)) ?_
  refine ak (ok_get (k := 0) ck10 kd0 (by decide) (fun _ _ _ => rfl) (vf_0_0 hsd) tw522 (by decide +kernel)) ?_
  refine ak (ok_get (k := 0) ck9 kd1 (by decide) (fun _ _ _ => rfl) (fun _ _ _ _ _ => trivial) tw387 (by decide +kernel)) ?_
  refine ak (ok_put (k := 9) ck1 kd6 (by decide) (fun _ _ _ => rfl) rfl rfl (by decide) tw225 (by decide +kernel)) ?_
  refine ak (ok_aload (by decide +kernel)) ?_
  refine ak (ok_aload (by decide +kernel)) ?_
  refine ak (ok_get (k := 3) ck1 kd6 (by decide) (fun _ _ _ => rfl) (fun _ _ _ _ _ => trivial) tw209 (by decide +kernel)) ?_
  refine ak (ok_put (k := 10) ck1 kd6 (by decide) (fun _ _ _ => rfl) rfl rfl (by decide) tw227 (by decide +kernel)) ?_
  refine ak (ok_aload (by decide +kernel)) ?_
  refine ak (ok_aload_n (k := 0) rfl (by decide +kernel)) ?_
  refine ak (ok_get (k := 0) ck10 kd0 (by decide) (fun _ _ _ => rfl) (vf_0_0 hsd) tw522 (by decide +kernel)) ?_
  refine ak (ok_iload_n (k := 1) rfl (by decide +kernel)) ?_
  refine ak (ok_invV (r := 1) (kW_countShown hsd l) qW_countShown ck9 kd1 iW_countShown tw933 tw934 (by decide) tw932 (by decide +kernel)) ?_
  refine ak (ok_put (k := 8) ck1 kd6 (by decide) (fun _ _ _ => rfl) rfl rfl (by decide) tw222 (by decide +kernel)) ?_
  refine ak (ok_aload (by decide +kernel)) ?_
  refine ak (ok_get (k := 8) ck1 kd6 (by decide) (fun _ _ _ => rfl) (fun _ _ _ _ _ => trivial) tw222 (by decide +kernel)) ?_
  refine ak (ok_ireturn rfl (by decide +kernel)) ?_
  exact trivial
set_option maxRecDepth 1000000 in
theorem eF_muster (x1 : Int32) (x2 : Int32) (M : Mem) : run (cF_muster) (fun _ _ _ _ => none) rtI 400 (seek (cF_muster) 0) [aR (0, 0, 0), aI x1, aI x2, aU, aU] [] M = mF_muster x1 x2 M := id rfl
theorem lF_muster {E : EV} {l : Launch} {p : Program} {e : Env} {s : State} {m : MethodId} {args : Array Value} {below : List Frame} {meth : Method} {c : Code} (A : AllOK E l 66 "FreeLances" prog_1_method_33_code 5 (some .int) outI (cF_muster)) (C : Cx E p s m args meth c "FreeLances" prog_1_method_33_code 5 (some .int)) : ∀ (x1 : Int32) (x2 : Int32) (M : Mem) (res : (Int32 × Mem)), mF_muster x1 x2 M = some res → Wm E p l e 66 s m args below meth c 5 0 [aR (0, 0, 0), aI x1, aI x2, aU, aU] [] M (outI res).1 (outI res).2 := by
  intro x1 x2 M res h
  refine run_at C A rfl hrtI (n := 400) ((eF_muster x1 x2 M).trans h) ?_
  intro t als st M hk; cases hk
def dF_muster {β : Type} : Den β := fun as M k => match as with
  | [.inr (.inr (.inl (al0, bl0, cl0))), .inl x1, .inl x2] => if al0 = 0 ∧ bl0 = 0 ∧ cl0 = 0 then (mF_muster x1 x2 M).bind fun q => k (aI q.1) q.2 else none
  | _ => none
theorem wF_muster {E : EV} (hsd : E.2.2.2 = 0) (l : Launch) (x1 : Int32) (x2 : Int32) (M : Mem) (q : (Int32 × Mem)) (hq : mF_muster x1 x2 M = some q) : Con E l 66 yF_muster prog_1_method_33_code 5 (some .int) [aR (0, 0, 0), aI x1, aI x2] M (outI q).1 (outI q).2 := by
  refine con_of iF_muster (Nat.le_of_ble_eq_true rfl) ?_
  intro p e s m args below meth c C
  exact lF_muster (oF_muster hsd l) C x1 x2 M _ hq
theorem kF_muster {E : EV} (hsd : E.2.2.2 = 0) (l : Launch) {β : Type} : DenOK E l 66 yF_muster prog_1_method_33_code 5 (some .int) true (dF_muster (β := β)) := by
  intro as M k res h
  unfold dF_muster at h
  split at h
  ·
    split at h
    · rename_i hc
      obtain ⟨rfl, rfl, rfl⟩ := hc
      obtain ⟨q, hq, hk⟩ := Option.bind_eq_some_iff.mp h
      exact ⟨aI q.1, q.2, hk, rfl, wF_muster hsd l _ _ M q hq⟩
    · cases h
  · cases h
theorem qF_muster {β : Type} : RecOK 0 (dF_muster (β := β)) := by
  intro as M k res h
  unfold dF_muster at h
  split at h
  ·
    split at h
    · rename_i hc
      obtain ⟨rfl, rfl, rfl⟩ := hc
      exact ⟨_, _, _, rfl⟩
    · cases h
  · cases h
/-! ===== FreeLances.twice(III)I ===== -/
abbrev yF_twice : MethodName := ⟨"FreeLances", "twice", "(III)I"⟩
theorem iF_twice : MI yF_twice prog_1_method_34_code 7 (some .int) 3 := ⟨tw952, tw97, ⟨by decide, by decide⟩, by decide +kernel, by decide, by decide⟩
def cF_twice : List (Ent (Int32 × Mem)) := [(false, 0, 1, sLdI 1),
  (false, 1, 3, sInv 1 true dF_isMark),
  (false, 4, 3, sIfEq 28),
  (false, 7, 1, sLdA 0),
  (false, 8, 1, sLdI 2),
  (false, 9, 3, sInv 2 true dF_isCompany),
  (false, 12, 3, sIfEq 28),
  (false, 15, 1, sLdA 0),
  (false, 16, 1, sLdI 3),
  (false, 17, 3, sInv 2 true dF_isCompany),
  (false, 20, 3, sIfEq 28),
  (false, 23, 1, sLdI 2),
  (false, 24, 1, sLdI 3),
  (false, 25, 3, sCmpNe 34),
  (false, 28, 1, sLdA 0),
  (false, 29, 1, sC 1),
  (false, 30, 3, sInv 2 true dF_finding),
  (false, 33, 1, sRetI),
  (false, 34, 1, sLdA 0),
  (false, 35, 3, sGet 0 (fun w i M => aR (1, 0, 0))),
  (false, 38, 3, sGet 1 (fun w i M => aR (5, w, 0))),
  (false, 41, 1, sLdI 2),
  (false, 42, 1, sAald 5 5 6),
  (false, 43, 2, sStA 4),
  (false, 45, 1, sLdA 0),
  (false, 46, 3, sGet 0 (fun w i M => aR (1, 0, 0))),
  (false, 49, 3, sGet 1 (fun w i M => aR (5, w, 0))),
  (false, 52, 1, sLdI 3),
  (false, 53, 1, sAald 5 5 6),
  (false, 54, 2, sStA 5),
  (false, 56, 2, sLdA 4),
  (false, 58, 1, sLdI 1),
  (false, 59, 2, sLdA 4),
  (false, 61, 3, sGet 6 (fun w i M => aI (M 6 w i 11))),
  (false, 64, 3, sInv 3 true dC_shows),
  (false, 67, 3, sIfEq 84),
  (false, 70, 2, sLdA 5),
  (false, 72, 1, sLdI 1),
  (false, 73, 2, sLdA 5),
  (false, 75, 3, sGet 6 (fun w i M => aI (M 6 w i 11))),
  (false, 78, 3, sInv 3 true dC_shows),
  (false, 81, 3, sIfNe 86),
  (false, 84, 1, sC 0),
  (false, 85, 1, sRetI),
  (false, 86, 2, sLdA 4),
  (false, 88, 3, sGet 6 (fun w i M => aI (M 6 w i 9))),
  (false, 91, 2, sLdA 5),
  (false, 93, 3, sGet 6 (fun w i M => aI (M 6 w i 9))),
  (false, 96, 1, sBin (fun x y => x - y)),
  (false, 97, 3, sAbs),
  (false, 100, 2, sStI 6),
  (false, 102, 2, sLdI 6),
  (false, 104, 1, sLdA 0),
  (false, 105, 3, sGet 0 (fun w i M => aR (1, 0, 0))),
  (false, 108, 2, sLdA 4),
  (false, 110, 3, sGet 6 (fun w i M => aI (M 6 w i 10))),
  (false, 113, 2, sLdA 5),
  (false, 115, 3, sGet 6 (fun w i M => aI (M 6 w i 10))),
  (false, 118, 3, sInv 3 true dW_way),
  (false, 121, 3, sCmpGe 128),
  (false, 124, 1, sC 2),
  (false, 125, 3, sGoto 129),
  (false, 128, 1, sC 1),
  (false, 129, 1, sRetI)]
theorem oF_twice {E : EV} (hsd : E.2.2.2 = 0) (l : Launch) : AllOK E l 3 "FreeLances" prog_1_method_34_code 7 (some .int) outI (cF_twice) := by
  refine ak (ok_iload_n (k := 1) rfl (by decide +kernel)) ?_
  refine ak (ok_invS (kF_isMark hsd l) iF_isMark tw655 (by decide) tw654 (by decide +kernel)) ?_
  refine ak (ok_if_eq (off := 24) (by decide) (by decide +kernel)) ?_
  refine ak (ok_aload_n (k := 0) rfl (by decide +kernel)) ?_
  refine ak (ok_iload_n (k := 2) rfl (by decide +kernel)) ?_
  refine ak (ok_invV (r := 0) (kF_isCompany hsd l) qF_isCompany ck10 kd0 iF_isCompany tw620 tw2 (by decide) tw618 (by decide +kernel)) ?_
  refine ak (ok_if_eq (off := 16) (by decide) (by decide +kernel)) ?_
  refine ak (ok_aload_n (k := 0) rfl (by decide +kernel)) ?_
  refine ak (ok_iload_n (k := 3) rfl (by decide +kernel)) ?_
  refine ak (ok_invV (r := 0) (kF_isCompany hsd l) qF_isCompany ck10 kd0 iF_isCompany tw620 tw2 (by decide) tw618 (by decide +kernel)) ?_
  refine ak (ok_if_eq (off := 8) (by decide) (by decide +kernel)) ?_
  refine ak (ok_iload_n (k := 2) rfl (by decide +kernel)) ?_
  refine ak (ok_iload_n (k := 3) rfl (by decide +kernel)) ?_
  refine ak (ok_icmp_ne (off := 9) (by decide) (by decide +kernel)) ?_
  refine ak (ok_aload_n (k := 0) rfl (by decide +kernel)) ?_
  refine ak (ok_iconst (n := 1) (by decide) (by decide +kernel)) ?_
  refine ak (ok_invV (r := 0) (kF_finding hsd l) qF_finding ck10 kd0 iF_finding tw557 tw0 (by decide) tw555 (by decide +kernel)) ?_
  refine ak (ok_ireturn rfl (by decide +kernel)) ?_
  refine ak (ok_aload_n (k := 0) rfl (by decide +kernel)) ?_
  refine ak (ok_get (k := 0) ck10 kd0 (by decide) (fun _ _ _ => rfl) (vf_0_0 hsd) tw522 (by decide +kernel)) ?_
  refine ak (ok_get (k := 5) ck9 kd1 (by decide) (fun _ _ _ => rfl) (vf_1_5 hsd) tw398 (by decide +kernel)) ?_
  refine ak (ok_iload_n (k := 2) rfl (by decide +kernel)) ?_
  refine ak (ok_aald (t0 := 3) (C := RX1) kd5 (by decide) rfl (vr_5 hsd) (by decide +kernel)) ?_
  refine ak (ok_astore (by decide) (by decide +kernel)) ?_
  refine ak (ok_aload_n (k := 0) rfl (by decide +kernel)) ?_
  refine ak (ok_get (k := 0) ck10 kd0 (by decide) (fun _ _ _ => rfl) (vf_0_0 hsd) tw522 (by decide +kernel)) ?_
  refine ak (ok_get (k := 5) ck9 kd1 (by decide) (fun _ _ _ => rfl) (vf_1_5 hsd) tw398 (by decide +kernel)) ?_
  refine ak (ok_iload_n (k := 3) rfl (by decide +kernel)) ?_
  refine ak (ok_aald (t0 := 3) (C := RX1) kd5 (by decide) rfl (vr_5 hsd) (by decide +kernel)) ?_
  refine ak (ok_astore (by decide) (by decide +kernel)) ?_
  refine ak (ok_aload (by decide +kernel)) ?_
  refine ak (ok_iload_n (k := 1) rfl (by decide +kernel)) ?_
  refine ak (ok_aload (by decide +kernel)) ?_
  refine ak (ok_get (k := 11) ck1 kd6 (by decide) (fun _ _ _ => rfl) (fun _ _ _ _ _ => trivial) tw230 (by decide +kernel)) ?_
  refine ak (ok_invV (r := 6) (kC_shows hsd l) qC_shows ck1 kd6 iC_shows tw937 tw938 (by decide) tw953 (by decide +kernel)) ?_
  refine ak (ok_if_eq (off := 17) (by decide) (by decide +kernel)) ?_
  refine ak (ok_aload (by decide +kernel)) ?_
  refine ak (ok_iload_n (k := 1) rfl (by decide +kernel)) ?_
  refine ak (ok_aload (by decide +kernel)) ?_
  refine ak (ok_get (k := 11) ck1 kd6 (by decide) (fun _ _ _ => rfl) (fun _ _ _ _ _ => trivial) tw230 (by decide +kernel)) ?_
  refine ak (ok_invV (r := 6) (kC_shows hsd l) qC_shows ck1 kd6 iC_shows tw937 tw938 (by decide) tw953 (by decide +kernel)) ?_
  refine ak (ok_if_ne (off := 5) (by decide) (by decide +kernel)) ?_
  refine ak (ok_iconst (n := 0) (by decide) (by decide +kernel)) ?_
  refine ak (ok_ireturn rfl (by decide +kernel)) ?_
  refine ak (ok_aload (by decide +kernel)) ?_
  refine ak (ok_get (k := 9) ck1 kd6 (by decide) (fun _ _ _ => rfl) (fun _ _ _ _ _ => trivial) tw225 (by decide +kernel)) ?_
  refine ak (ok_aload (by decide +kernel)) ?_
  refine ak (ok_get (k := 9) ck1 kd6 (by decide) (fun _ _ _ => rfl) (fun _ _ _ _ _ => trivial) tw225 (by decide +kernel)) ?_
  refine ak (ok_isub (by decide +kernel)) ?_
  refine ak (ok_mabs (by decide) tw954 tw955 tw109 twMabs (by decide +kernel)) ?_
  refine ak (ok_istore (by decide) (by decide +kernel)) ?_
  refine ak (ok_iload (by decide +kernel)) ?_
  refine ak (ok_aload_n (k := 0) rfl (by decide +kernel)) ?_
  refine ak (ok_get (k := 0) ck10 kd0 (by decide) (fun _ _ _ => rfl) (vf_0_0 hsd) tw522 (by decide +kernel)) ?_
  refine ak (ok_aload (by decide +kernel)) ?_
  refine ak (ok_get (k := 10) ck1 kd6 (by decide) (fun _ _ _ => rfl) (fun _ _ _ _ _ => trivial) tw227 (by decide +kernel)) ?_
  refine ak (ok_aload (by decide +kernel)) ?_
  refine ak (ok_get (k := 10) ck1 kd6 (by decide) (fun _ _ _ => rfl) (fun _ _ _ _ _ => trivial) tw227 (by decide +kernel)) ?_
  refine ak (ok_invV (r := 1) (kW_way hsd l) qW_way ck9 kd1 iW_way tw577 tw578 (by decide) tw587 (by decide +kernel)) ?_
  refine ak (ok_icmp_ge (off := 7) (by decide) (by decide +kernel)) ?_
  refine ak (ok_iconst (n := 2) (by decide) (by decide +kernel)) ?_
  refine ak (ok_goto (off := 4) (by decide) (by decide +kernel)) ?_
  refine ak (ok_iconst (n := 1) (by decide) (by decide +kernel)) ?_
  refine ak (ok_ireturn rfl (by decide +kernel)) ?_
  exact trivial
set_option maxRecDepth 1000000 in
theorem eF_twice (x1 : Int32) (x2 : Int32) (x3 : Int32) (M : Mem) : run (cF_twice) (fun _ _ _ _ => none) rtI 400 (seek (cF_twice) 0) [aR (0, 0, 0), aI x1, aI x2, aI x3, aU, aU, aU] [] M = mF_twice x1 x2 x3 M := id rfl
theorem lF_twice {E : EV} {l : Launch} {p : Program} {e : Env} {s : State} {m : MethodId} {args : Array Value} {below : List Frame} {meth : Method} {c : Code} (A : AllOK E l 3 "FreeLances" prog_1_method_34_code 7 (some .int) outI (cF_twice)) (C : Cx E p s m args meth c "FreeLances" prog_1_method_34_code 7 (some .int)) : ∀ (x1 : Int32) (x2 : Int32) (x3 : Int32) (M : Mem) (res : (Int32 × Mem)), mF_twice x1 x2 x3 M = some res → Wm E p l e 3 s m args below meth c 7 0 [aR (0, 0, 0), aI x1, aI x2, aI x3, aU, aU, aU] [] M (outI res).1 (outI res).2 := by
  intro x1 x2 x3 M res h
  refine run_at C A rfl hrtI (n := 400) ((eF_twice x1 x2 x3 M).trans h) ?_
  intro t als st M hk; cases hk
def dF_twice {β : Type} : Den β := fun as M k => match as with
  | [.inr (.inr (.inl (al0, bl0, cl0))), .inl x1, .inl x2, .inl x3] => if al0 = 0 ∧ bl0 = 0 ∧ cl0 = 0 then (mF_twice x1 x2 x3 M).bind fun q => k (aI q.1) q.2 else none
  | _ => none
theorem wF_twice {E : EV} (hsd : E.2.2.2 = 0) (l : Launch) (x1 : Int32) (x2 : Int32) (x3 : Int32) (M : Mem) (q : (Int32 × Mem)) (hq : mF_twice x1 x2 x3 M = some q) : Con E l 3 yF_twice prog_1_method_34_code 7 (some .int) [aR (0, 0, 0), aI x1, aI x2, aI x3] M (outI q).1 (outI q).2 := by
  refine con_of iF_twice (Nat.le_of_ble_eq_true rfl) ?_
  intro p e s m args below meth c C
  exact lF_twice (oF_twice hsd l) C x1 x2 x3 M _ hq
theorem kF_twice {E : EV} (hsd : E.2.2.2 = 0) (l : Launch) {β : Type} : DenOK E l 3 yF_twice prog_1_method_34_code 7 (some .int) true (dF_twice (β := β)) := by
  intro as M k res h
  unfold dF_twice at h
  split at h
  ·
    split at h
    · rename_i hc
      obtain ⟨rfl, rfl, rfl⟩ := hc
      obtain ⟨q, hq, hk⟩ := Option.bind_eq_some_iff.mp h
      exact ⟨aI q.1, q.2, hk, rfl, wF_twice hsd l _ _ _ M q hq⟩
    · cases h
  · cases h
theorem qF_twice {β : Type} : RecOK 0 (dF_twice (β := β)) := by
  intro as M k res h
  unfold dF_twice at h
  split at h
  ·
    split at h
    · rename_i hc
      obtain ⟨rfl, rfl, rfl⟩ := hc
      exact ⟨_, _, _, rfl⟩
    · cases h
  · cases h
/-! ===== FreeLances$World.showing(I)I ===== -/
abbrev yW_showing : MethodName := ⟨"FreeLances$World", "showing", "(I)I"⟩
theorem iW_showing : MI yW_showing prog_11_method_29_code 4 (some .int) 1 := ⟨tw964, tw98, ⟨by decide, by decide⟩, by decide +kernel, by decide, by decide⟩
def cW_showing : List (Ent (Int32 × Mem)) := [(false, 0, 1, sC 0),
  (false, 1, 1, sStI 2),
  (false, 2, 1, sC 0),
  (false, 3, 1, sStI 3),
  (true, 4, 1, sLdI 3),
  (false, 5, 1, sLdA 0),
  (false, 6, 3, sGet 1 (fun w i M => aI (M 1 w i 6))),
  (false, 9, 3, sCmpGe 48),
  (false, 12, 1, sLdI 2),
  (false, 13, 1, sLdA 0),
  (false, 14, 3, sGet 1 (fun w i M => aR (5, w, 0))),
  (false, 17, 1, sLdI 3),
  (false, 18, 1, sAald 5 5 6),
  (false, 19, 1, sLdI 1),
  (false, 20, 1, sLdA 0),
  (false, 21, 3, sGet 1 (fun w i M => aR (5, w, 0))),
  (false, 24, 1, sLdI 3),
  (false, 25, 1, sAald 5 5 6),
  (false, 26, 3, sGet 6 (fun w i M => aI (M 6 w i 11))),
  (false, 29, 3, sInv 3 true dC_shows),
  (false, 32, 3, sIfEq 39),
  (false, 35, 1, sC 1),
  (false, 36, 3, sGoto 40),
  (false, 39, 1, sC 0),
  (false, 40, 1, sBin (fun x y => x + y)),
  (false, 41, 1, sStI 2),
  (false, 42, 3, sInc 3 1),
  (false, 45, 3, sGoto 4),
  (false, 48, 1, sLdI 2),
  (false, 49, 1, sRetI)]
theorem oW_showing {E : EV} (hsd : E.2.2.2 = 0) (l : Launch) : AllOK E l 2 "FreeLances$World" prog_11_method_29_code 4 (some .int) outI (cW_showing) := by
  refine ak (ok_iconst (n := 0) (by decide) (by decide +kernel)) ?_
  refine ak (ok_istore_n (k := 2) rfl (by decide) (by decide +kernel)) ?_
  refine ak (ok_iconst (n := 0) (by decide) (by decide +kernel)) ?_
  refine ak (ok_istore_n (k := 3) rfl (by decide) (by decide +kernel)) ?_
  refine ak (ok_iload_n (k := 3) rfl (by decide +kernel)) ?_
  refine ak (ok_aload_n (k := 0) rfl (by decide +kernel)) ?_
  refine ak (ok_get (k := 6) ck9 kd1 (by decide) (fun _ _ _ => rfl) (fun _ _ _ _ _ => trivial) tw399 (by decide +kernel)) ?_
  refine ak (ok_icmp_ge (off := 39) (by decide) (by decide +kernel)) ?_
  refine ak (ok_iload_n (k := 2) rfl (by decide +kernel)) ?_
  refine ak (ok_aload_n (k := 0) rfl (by decide +kernel)) ?_
  refine ak (ok_get (k := 5) ck9 kd1 (by decide) (fun _ _ _ => rfl) (vf_1_5 hsd) tw396 (by decide +kernel)) ?_
  refine ak (ok_iload_n (k := 3) rfl (by decide +kernel)) ?_
  refine ak (ok_aald (t0 := 3) (C := RX1) kd5 (by decide) rfl (vr_5 hsd) (by decide +kernel)) ?_
  refine ak (ok_iload_n (k := 1) rfl (by decide +kernel)) ?_
  refine ak (ok_aload_n (k := 0) rfl (by decide +kernel)) ?_
  refine ak (ok_get (k := 5) ck9 kd1 (by decide) (fun _ _ _ => rfl) (vf_1_5 hsd) tw396 (by decide +kernel)) ?_
  refine ak (ok_iload_n (k := 3) rfl (by decide +kernel)) ?_
  refine ak (ok_aald (t0 := 3) (C := RX1) kd5 (by decide) rfl (vr_5 hsd) (by decide +kernel)) ?_
  refine ak (ok_get (k := 11) ck1 kd6 (by decide) (fun _ _ _ => rfl) (fun _ _ _ _ _ => trivial) tw229 (by decide +kernel)) ?_
  refine ak (ok_invV (r := 6) (kC_shows hsd l) qC_shows ck1 kd6 iC_shows tw937 tw938 (by decide) tw936 (by decide +kernel)) ?_
  refine ak (ok_if_eq (off := 7) (by decide) (by decide +kernel)) ?_
  refine ak (ok_iconst (n := 1) (by decide) (by decide +kernel)) ?_
  refine ak (ok_goto (off := 4) (by decide) (by decide +kernel)) ?_
  refine ak (ok_iconst (n := 0) (by decide) (by decide +kernel)) ?_
  refine ak (ok_iadd (by decide +kernel)) ?_
  refine ak (ok_istore_n (k := 2) rfl (by decide) (by decide +kernel)) ?_
  refine ak (ok_iinc (n := 1) (by decide) (by decide) (by decide +kernel)) ?_
  refine ak (ok_goto (off := (-41)) (by decide) (by decide +kernel)) ?_
  refine ak (ok_iload_n (k := 2) rfl (by decide +kernel)) ?_
  refine ak (ok_ireturn rfl (by decide +kernel)) ?_
  exact trivial
def KW_showing_4 (j4 : Nat → Int32 → Int32 → Int32 → Mem → Option (Int32 × Mem)) : Jm (Int32 × Mem) := fun t als st M =>
  if t = 4 then (match als, st with
  | [.inr (.inr (.inl (al0, w0, cl0))), .inl x1, .inl x2, .inl x3], [] => if al0 = 1 ∧ cl0 = 0 then j4 w0 x1 x2 x3 M else none
  | _, _ => none) else
  none
set_option maxRecDepth 1000000 in
theorem eW_showing_4 (j4 : Nat → Int32 → Int32 → Int32 → Mem → Option (Int32 × Mem)) (w0 : Nat) (x1 : Int32) (x2 : Int32) (x3 : Int32) (M : Mem) : run (cW_showing) (KW_showing_4 j4) rtI 400 (seek (cW_showing) 4) [aR (1, w0, 0), aI x1, aI x2, aI x3] [] M = mW_showing_4b j4 w0 x1 x2 x3 M := id rfl
theorem lW_showing_4 {E : EV} {l : Launch} {p : Program} {e : Env} {s : State} {m : MethodId} {args : Array Value} {below : List Frame} {meth : Method} {c : Code} (A : AllOK E l 2 "FreeLances$World" prog_11_method_29_code 4 (some .int) outI (cW_showing)) (C : Cx E p s m args meth c "FreeLances$World" prog_11_method_29_code 4 (some .int)) : ∀ (n : Nat), ∀ (w0 : Nat) (x1 : Int32) (x2 : Int32) (x3 : Int32) (M : Mem) (res : (Int32 × Mem)), mW_showing_4 n w0 x1 x2 x3 M = some res → Wm E p l e 2 s m args below meth c 4 4 [aR (1, w0, 0), aI x1, aI x2, aI x3] [] M (outI res).1 (outI res).2 := by
  intro n
  induction n with
  | zero => intro _ _ _ _ M res h; cases h
  | succ n ih =>
    intro w0 x1 x2 x3 M res h
    refine run_at C A rfl hrtI (n := 400) ((eW_showing_4 (mW_showing_4 n) w0 x1 x2 x3 M).trans h) ?_
    intro t als st M hk
    unfold KW_showing_4 at hk
    split at hk
    · rename_i ht
      subst ht
      split at hk
      · split at hk
        · rename_i hc
          obtain ⟨rfl, rfl⟩ := hc
          exact ih _ _ _ _ _ _ hk
        · cases hk
      · cases hk
    cases hk
def KW_showing (j4 : Nat → Int32 → Int32 → Int32 → Mem → Option (Int32 × Mem)) : Jm (Int32 × Mem) := fun t als st M =>
  if t = 4 then (match als, st with
  | [.inr (.inr (.inl (al0, w0, cl0))), .inl x1, .inl x2, .inl x3], [] => if al0 = 1 ∧ cl0 = 0 then j4 w0 x1 x2 x3 M else none
  | _, _ => none) else
  none
set_option maxRecDepth 1000000 in
theorem eW_showing (j4 : Nat → Int32 → Int32 → Int32 → Mem → Option (Int32 × Mem)) (w0 : Nat) (x1 : Int32) (M : Mem) : run (cW_showing) (KW_showing j4) rtI 400 (seek (cW_showing) 0) [aR (1, w0, 0), aI x1, aU, aU] [] M = mW_showingb j4 w0 x1 M := id rfl
theorem lW_showing {E : EV} {l : Launch} {p : Program} {e : Env} {s : State} {m : MethodId} {args : Array Value} {below : List Frame} {meth : Method} {c : Code} (A : AllOK E l 2 "FreeLances$World" prog_11_method_29_code 4 (some .int) outI (cW_showing)) (C : Cx E p s m args meth c "FreeLances$World" prog_11_method_29_code 4 (some .int)) : ∀ (w0 : Nat) (x1 : Int32) (M : Mem) (res : (Int32 × Mem)), mW_showing w0 x1 M = some res → Wm E p l e 2 s m args below meth c 4 0 [aR (1, w0, 0), aI x1, aU, aU] [] M (outI res).1 (outI res).2 := by
  intro w0 x1 M res h
  refine run_at C A rfl hrtI (n := 400) ((eW_showing (mW_showing_4 fuel) w0 x1 M).trans h) ?_
  intro t als st M hk
  unfold KW_showing at hk
  split at hk
  · rename_i ht
    subst ht
    split at hk
    · split at hk
      · rename_i hc
        obtain ⟨rfl, rfl⟩ := hc
        exact lW_showing_4 A C _ _ _ _ _ _ _ hk
      · cases hk
    · cases hk
  cases hk
def dW_showing {β : Type} : Den β := fun as M k => match as with
  | [.inr (.inr (.inl (al0, w0, cl0))), .inl x1] => if al0 = 1 ∧ cl0 = 0 then (mW_showing w0 x1 M).bind fun q => k (aI q.1) q.2 else none
  | _ => none
theorem wW_showing {E : EV} (hsd : E.2.2.2 = 0) (l : Launch) (w0 : Nat) (x1 : Int32) (M : Mem) (q : (Int32 × Mem)) (hq : mW_showing w0 x1 M = some q) : Con E l 2 yW_showing prog_11_method_29_code 4 (some .int) [aR (1, w0, 0), aI x1] M (outI q).1 (outI q).2 := by
  refine con_of iW_showing (Nat.le_of_ble_eq_true rfl) ?_
  intro p e s m args below meth c C
  exact lW_showing (oW_showing hsd l) C w0 x1 M _ hq
theorem kW_showing {E : EV} (hsd : E.2.2.2 = 0) (l : Launch) {β : Type} : DenOK E l 2 yW_showing prog_11_method_29_code 4 (some .int) true (dW_showing (β := β)) := by
  intro as M k res h
  unfold dW_showing at h
  split at h
  ·
    split at h
    · rename_i hc
      obtain ⟨rfl, rfl⟩ := hc
      obtain ⟨q, hq, hk⟩ := Option.bind_eq_some_iff.mp h
      exact ⟨aI q.1, q.2, hk, rfl, wW_showing hsd l _ _ M q hq⟩
    · cases h
  · cases h
theorem qW_showing {β : Type} : RecOK 1 (dW_showing (β := β)) := by
  intro as M k res h
  unfold dW_showing at h
  split at h
  ·
    split at h
    · rename_i hc
      obtain ⟨rfl, rfl⟩ := hc
      exact ⟨_, _, _, rfl⟩
    · cases h
  · cases h
/-! ===== FreeLances.shown(I)I ===== -/
abbrev yF_shown : MethodName := ⟨"FreeLances", "shown", "(I)I"⟩
theorem iF_shown : MI yF_shown prog_1_method_35_code 4 (some .int) 1 := ⟨tw960, tw97, ⟨by decide, by decide⟩, by decide +kernel, by decide, by decide⟩
def cF_shown : List (Ent (Int32 × Mem)) := [(false, 0, 1, sLdI 1),
  (false, 1, 3, sIfGe 10),
  (false, 4, 1, sLdA 0),
  (false, 5, 1, sC 1),
  (false, 6, 3, sInv 2 true dF_finding),
  (false, 9, 1, sRetI),
  (false, 10, 1, sLdI 1),
  (false, 11, 1, sStI 2),
  (false, 12, 1, sC 0),
  (false, 13, 1, sStI 3),
  (true, 14, 1, sLdI 3),
  (false, 15, 2, sC 100),
  (false, 17, 3, sCmpGe 47),
  (false, 20, 1, sLdA 0),
  (false, 21, 3, sGet 0 (fun w i M => aR (1, 0, 0))),
  (false, 24, 1, sLdI 3),
  (false, 25, 3, sInv 2 true dW_showing),
  (false, 28, 1, sC 2),
  (false, 29, 3, sCmpLt 41),
  (false, 32, 1, sLdI 2),
  (false, 33, 3, sInc 2 (-1)),
  (false, 36, 3, sIfNe 41),
  (false, 39, 1, sLdI 3),
  (false, 40, 1, sRetI),
  (false, 41, 3, sInc 3 1),
  (false, 44, 3, sGoto 14),
  (false, 47, 1, sLdA 0),
  (false, 48, 1, sC 2),
  (false, 49, 3, sInv 2 true dF_finding),
  (false, 52, 1, sRetI)]
theorem oF_shown {E : EV} (hsd : E.2.2.2 = 0) (l : Launch) : AllOK E l 3 "FreeLances" prog_1_method_35_code 4 (some .int) outI (cF_shown) := by
  refine ak (ok_iload_n (k := 1) rfl (by decide +kernel)) ?_
  refine ak (ok_if_ge (off := 9) (by decide) (by decide +kernel)) ?_
  refine ak (ok_aload_n (k := 0) rfl (by decide +kernel)) ?_
  refine ak (ok_iconst (n := 1) (by decide) (by decide +kernel)) ?_
  refine ak (ok_invV (r := 0) (kF_finding hsd l) qF_finding ck10 kd0 iF_finding tw557 tw0 (by decide) tw555 (by decide +kernel)) ?_
  refine ak (ok_ireturn rfl (by decide +kernel)) ?_
  refine ak (ok_iload_n (k := 1) rfl (by decide +kernel)) ?_
  refine ak (ok_istore_n (k := 2) rfl (by decide) (by decide +kernel)) ?_
  refine ak (ok_iconst (n := 0) (by decide) (by decide +kernel)) ?_
  refine ak (ok_istore_n (k := 3) rfl (by decide) (by decide +kernel)) ?_
  refine ak (ok_iload_n (k := 3) rfl (by decide +kernel)) ?_
  refine ak (ok_bipush (n := 100) (by decide) (by decide +kernel)) ?_
  refine ak (ok_icmp_ge (off := 30) (by decide) (by decide +kernel)) ?_
  refine ak (ok_aload_n (k := 0) rfl (by decide +kernel)) ?_
  refine ak (ok_get (k := 0) ck10 kd0 (by decide) (fun _ _ _ => rfl) (vf_0_0 hsd) tw522 (by decide +kernel)) ?_
  refine ak (ok_iload_n (k := 3) rfl (by decide +kernel)) ?_
  refine ak (ok_invV (r := 1) (kW_showing hsd l) qW_showing ck9 kd1 iW_showing tw962 tw963 (by decide) tw961 (by decide +kernel)) ?_
  refine ak (ok_iconst (n := 2) (by decide) (by decide +kernel)) ?_
  refine ak (ok_icmp_lt (off := 12) (by decide) (by decide +kernel)) ?_
  refine ak (ok_iload_n (k := 2) rfl (by decide +kernel)) ?_
  refine ak (ok_iinc (n := (-1)) (by decide) (by decide) (by decide +kernel)) ?_
  refine ak (ok_if_ne (off := 5) (by decide) (by decide +kernel)) ?_
  refine ak (ok_iload_n (k := 3) rfl (by decide +kernel)) ?_
  refine ak (ok_ireturn rfl (by decide +kernel)) ?_
  refine ak (ok_iinc (n := 1) (by decide) (by decide) (by decide +kernel)) ?_
  refine ak (ok_goto (off := (-30)) (by decide) (by decide +kernel)) ?_
  refine ak (ok_aload_n (k := 0) rfl (by decide +kernel)) ?_
  refine ak (ok_iconst (n := 2) (by decide) (by decide +kernel)) ?_
  refine ak (ok_invV (r := 0) (kF_finding hsd l) qF_finding ck10 kd0 iF_finding tw557 tw0 (by decide) tw555 (by decide +kernel)) ?_
  refine ak (ok_ireturn rfl (by decide +kernel)) ?_
  exact trivial
def KF_shown_14 (j14 : Int32 → Int32 → Mem → Option (Int32 × Mem)) : Jm (Int32 × Mem) := fun t als st M =>
  if t = 14 then (match als, st with
  | [.inr (.inr (.inl (al0, bl0, cl0))), _, .inl x2, .inl x3], [] => if al0 = 0 ∧ bl0 = 0 ∧ cl0 = 0 then j14 x2 x3 M else none
  | _, _ => none) else
  none
set_option maxRecDepth 1000000 in
theorem eF_shown_14 (j14 : Int32 → Int32 → Mem → Option (Int32 × Mem)) (x2 : Int32) (x3 : Int32) (M : Mem) (u1 : AV) : run (cF_shown) (KF_shown_14 j14) rtI 400 (seek (cF_shown) 14) [aR (0, 0, 0), u1, aI x2, aI x3] [] M = mF_shown_14b j14 x2 x3 M := id rfl
theorem lF_shown_14 {E : EV} {l : Launch} {p : Program} {e : Env} {s : State} {m : MethodId} {args : Array Value} {below : List Frame} {meth : Method} {c : Code} (A : AllOK E l 3 "FreeLances" prog_1_method_35_code 4 (some .int) outI (cF_shown)) (C : Cx E p s m args meth c "FreeLances" prog_1_method_35_code 4 (some .int)) : ∀ (n : Nat), ∀ (x2 : Int32) (x3 : Int32) (M : Mem) (res : (Int32 × Mem)), mF_shown_14 n x2 x3 M = some res → ∀ (u1 : AV), Wm E p l e 3 s m args below meth c 4 14 [aR (0, 0, 0), u1, aI x2, aI x3] [] M (outI res).1 (outI res).2 := by
  intro n
  induction n with
  | zero => intro _ _ M res h; cases h
  | succ n ih =>
    intro x2 x3 M res h u1
    refine run_at C A rfl hrtI (n := 400) ((eF_shown_14 (mF_shown_14 n) x2 x3 M u1).trans h) ?_
    intro t als st M hk
    unfold KF_shown_14 at hk
    split at hk
    · rename_i ht
      subst ht
      split at hk
      · split at hk
        · rename_i hc
          obtain ⟨rfl, rfl, rfl⟩ := hc
          exact ih _ _ _ _ hk _
        · cases hk
      · cases hk
    cases hk
def KF_shown (j14 : Int32 → Int32 → Mem → Option (Int32 × Mem)) : Jm (Int32 × Mem) := fun t als st M =>
  if t = 14 then (match als, st with
  | [.inr (.inr (.inl (al0, bl0, cl0))), _, .inl x2, .inl x3], [] => if al0 = 0 ∧ bl0 = 0 ∧ cl0 = 0 then j14 x2 x3 M else none
  | _, _ => none) else
  none
set_option maxRecDepth 1000000 in
theorem eF_shown (j14 : Int32 → Int32 → Mem → Option (Int32 × Mem)) (x1 : Int32) (M : Mem) : run (cF_shown) (KF_shown j14) rtI 400 (seek (cF_shown) 0) [aR (0, 0, 0), aI x1, aU, aU] [] M = mF_shownb j14 x1 M := id rfl
theorem lF_shown {E : EV} {l : Launch} {p : Program} {e : Env} {s : State} {m : MethodId} {args : Array Value} {below : List Frame} {meth : Method} {c : Code} (A : AllOK E l 3 "FreeLances" prog_1_method_35_code 4 (some .int) outI (cF_shown)) (C : Cx E p s m args meth c "FreeLances" prog_1_method_35_code 4 (some .int)) : ∀ (x1 : Int32) (M : Mem) (res : (Int32 × Mem)), mF_shown x1 M = some res → Wm E p l e 3 s m args below meth c 4 0 [aR (0, 0, 0), aI x1, aU, aU] [] M (outI res).1 (outI res).2 := by
  intro x1 M res h
  refine run_at C A rfl hrtI (n := 400) ((eF_shown (mF_shown_14 fuel) x1 M).trans h) ?_
  intro t als st M hk
  unfold KF_shown at hk
  split at hk
  · rename_i ht
    subst ht
    split at hk
    · split at hk
      · rename_i hc
        obtain ⟨rfl, rfl, rfl⟩ := hc
        exact lF_shown_14 A C _ _ _ _ _ hk _
      · cases hk
    · cases hk
  cases hk
def dF_shown {β : Type} : Den β := fun as M k => match as with
  | [.inr (.inr (.inl (al0, bl0, cl0))), .inl x1] => if al0 = 0 ∧ bl0 = 0 ∧ cl0 = 0 then (mF_shown x1 M).bind fun q => k (aI q.1) q.2 else none
  | _ => none
theorem wF_shown {E : EV} (hsd : E.2.2.2 = 0) (l : Launch) (x1 : Int32) (M : Mem) (q : (Int32 × Mem)) (hq : mF_shown x1 M = some q) : Con E l 3 yF_shown prog_1_method_35_code 4 (some .int) [aR (0, 0, 0), aI x1] M (outI q).1 (outI q).2 := by
  refine con_of iF_shown (Nat.le_of_ble_eq_true rfl) ?_
  intro p e s m args below meth c C
  exact lF_shown (oF_shown hsd l) C x1 M _ hq
theorem kF_shown {E : EV} (hsd : E.2.2.2 = 0) (l : Launch) {β : Type} : DenOK E l 3 yF_shown prog_1_method_35_code 4 (some .int) true (dF_shown (β := β)) := by
  intro as M k res h
  unfold dF_shown at h
  split at h
  ·
    split at h
    · rename_i hc
      obtain ⟨rfl, rfl, rfl⟩ := hc
      obtain ⟨q, hq, hk⟩ := Option.bind_eq_some_iff.mp h
      exact ⟨aI q.1, q.2, hk, rfl, wF_shown hsd l _ M q hq⟩
    · cases h
  · cases h
theorem qF_shown {β : Type} : RecOK 0 (dF_shown (β := β)) := by
  intro as M k res h
  unfold dF_shown at h
  split at h
  ·
    split at h
    · rename_i hc
      obtain ⟨rfl, rfl, rfl⟩ := hc
      exact ⟨_, _, _, rfl⟩
    · cases h
  · cases h
/-! ===== FreeLances.hold(IIIZ)I ===== -/
abbrev yF_hold : MethodName := ⟨"FreeLances", "hold", "(IIIZ)I"⟩
theorem iF_hold : MI yF_hold prog_1_method_36_code 9 (some .int) 4 := ⟨tw968, tw97, ⟨by decide, by decide⟩, by decide +kernel, by decide, by decide⟩
def cF_hold : List (Ent (Int32 × Mem)) := [(false, 0, 1, sLdA 0),
  (false, 1, 1, sLdI 1),
  (false, 2, 3, sInv 2 true dF_isTown),
  (false, 5, 3, sIfEq 26),
  (false, 8, 1, sLdA 0),
  (false, 9, 1, sLdI 2),
  (false, 10, 3, sInv 2 true dF_isCompany),
  (false, 13, 3, sIfEq 26),
  (false, 16, 1, sLdI 3),
  (false, 17, 1, sC 0),
  (false, 18, 2, sC 99),
  (false, 20, 3, sInv 3 true dF_within),
  (false, 23, 3, sIfNe 32),
  (false, 26, 1, sLdA 0),
  (false, 27, 1, sC 1),
  (false, 28, 3, sInv 2 true dF_finding),
  (false, 31, 1, sRetI),
  (false, 32, 1, sLdA 0),
  (false, 33, 3, sGet 0 (fun w i M => aR (1, 0, 0))),
  (false, 36, 3, sGet 1 (fun w i M => aR (2, w, 0))),
  (false, 39, 1, sLdI 1),
  (false, 40, 1, sAald 2 8 3),
  (false, 41, 2, sStA 5),
  (false, 43, 2, sLdI 4),
  (false, 45, 3, sIfEq 65),
  (false, 48, 1, sLdI 3),
  (false, 49, 1, sLdA 0),
  (false, 50, 3, sGet 0 (fun w i M => aR (1, 0, 0))),
  (false, 53, 3, sGet 1 (fun w i M => aR (5, w, 0))),
  (false, 56, 1, sLdI 2),
  (false, 57, 1, sAald 5 5 6),
  (false, 58, 3, sGet 6 (fun w i M => aI (M 6 w i 6))),
  (false, 61, 1, sBin (fun x y => x + y)),
  (false, 62, 3, sGoto 66),
  (false, 65, 1, sLdI 3),
  (false, 66, 2, sStI 6),
  (false, 68, 2, sLdA 5),
  (false, 70, 3, sGet 3 (fun w i M => aI (M 3 w i 2))),
  (false, 73, 2, sStI 7),
  (false, 75, 1, sC 1),
  (false, 76, 2, sStI 8),
  (true, 78, 2, sLdI 8),
  (false, 80, 3, sC 400),
  (false, 83, 3, sCmpGt 124),
  (false, 86, 2, sLdI 7),
  (false, 88, 2, sLdI 6),
  (false, 90, 1, sBin (fun x y => x - y)),
  (false, 91, 2, sLdA 5),
  (false, 93, 3, sGet 3 (fun w i M => aI (M 3 w i 3))),
  (false, 96, 2, sC 10),
  (false, 98, 1, sBin0 (fun x y => x / y)),
  (false, 99, 1, sBin (fun x y => x + y)),
  (false, 100, 2, sLdA 5),
  (false, 102, 3, sGet 3 (fun w i M => aI (M 3 w i 2))),
  (false, 105, 3, sMin),
  (false, 108, 2, sStI 7),
  (false, 110, 2, sLdI 7),
  (false, 112, 3, sIfGt 118),
  (false, 115, 2, sLdI 8),
  (false, 117, 1, sRetI),
  (false, 118, 3, sInc 8 1),
  (false, 121, 3, sGoto 78),
  (false, 124, 1, sLdA 0),
  (false, 125, 1, sC 2),
  (false, 126, 3, sInv 2 true dF_finding),
  (false, 129, 1, sRetI)]
theorem oF_hold {E : EV} (hsd : E.2.2.2 = 0) (l : Launch) : AllOK E l 3 "FreeLances" prog_1_method_36_code 9 (some .int) outI (cF_hold) := by
  refine ak (ok_aload_n (k := 0) rfl (by decide +kernel)) ?_
  refine ak (ok_iload_n (k := 1) rfl (by decide +kernel)) ?_
  refine ak (ok_invV (r := 0) (kF_isTown hsd l) qF_isTown ck10 kd0 iF_isTown tw570 tw1 (by decide) tw568 (by decide +kernel)) ?_
  refine ak (ok_if_eq (off := 21) (by decide) (by decide +kernel)) ?_
  refine ak (ok_aload_n (k := 0) rfl (by decide +kernel)) ?_
  refine ak (ok_iload_n (k := 2) rfl (by decide +kernel)) ?_
  refine ak (ok_invV (r := 0) (kF_isCompany hsd l) qF_isCompany ck10 kd0 iF_isCompany tw620 tw2 (by decide) tw618 (by decide +kernel)) ?_
  refine ak (ok_if_eq (off := 13) (by decide) (by decide +kernel)) ?_
  refine ak (ok_iload_n (k := 3) rfl (by decide +kernel)) ?_
  refine ak (ok_iconst (n := 0) (by decide) (by decide +kernel)) ?_
  refine ak (ok_bipush (n := 99) (by decide) (by decide +kernel)) ?_
  refine ak (ok_invS (kF_within hsd l) iF_within tw553 (by decide) tw552 (by decide +kernel)) ?_
  refine ak (ok_if_ne (off := 9) (by decide) (by decide +kernel)) ?_
  refine ak (ok_aload_n (k := 0) rfl (by decide +kernel)) ?_
  refine ak (ok_iconst (n := 1) (by decide) (by decide +kernel)) ?_
  refine ak (ok_invV (r := 0) (kF_finding hsd l) qF_finding ck10 kd0 iF_finding tw557 tw0 (by decide) tw555 (by decide +kernel)) ?_
  refine ak (ok_ireturn rfl (by decide +kernel)) ?_
  refine ak (ok_aload_n (k := 0) rfl (by decide +kernel)) ?_
  refine ak (ok_get (k := 0) ck10 kd0 (by decide) (fun _ _ _ => rfl) (vf_0_0 hsd) tw522 (by decide +kernel)) ?_
  refine ak (ok_get (k := 1) ck9 kd1 (by decide) (fun _ _ _ => rfl) (vf_1_1 hsd) tw389 (by decide +kernel)) ?_
  refine ak (ok_iload_n (k := 1) rfl (by decide +kernel)) ?_
  refine ak (ok_aald (t0 := 2) (C := RX7) kd2 (by decide) rfl (vr_2 hsd) (by decide +kernel)) ?_
  refine ak (ok_astore (by decide) (by decide +kernel)) ?_
  refine ak (ok_iload (by decide +kernel)) ?_
  refine ak (ok_if_eq (off := 20) (by decide) (by decide +kernel)) ?_
  refine ak (ok_iload_n (k := 3) rfl (by decide +kernel)) ?_
  refine ak (ok_aload_n (k := 0) rfl (by decide +kernel)) ?_
  refine ak (ok_get (k := 0) ck10 kd0 (by decide) (fun _ _ _ => rfl) (vf_0_0 hsd) tw522 (by decide +kernel)) ?_
  refine ak (ok_get (k := 5) ck9 kd1 (by decide) (fun _ _ _ => rfl) (vf_1_5 hsd) tw398 (by decide +kernel)) ?_
  refine ak (ok_iload_n (k := 2) rfl (by decide +kernel)) ?_
  refine ak (ok_aald (t0 := 3) (C := RX1) kd5 (by decide) rfl (vr_5 hsd) (by decide +kernel)) ?_
  refine ak (ok_get (k := 6) ck1 kd6 (by decide) (fun _ _ _ => rfl) (fun _ _ _ _ _ => trivial) tw216 (by decide +kernel)) ?_
  refine ak (ok_iadd (by decide +kernel)) ?_
  refine ak (ok_goto (off := 4) (by decide) (by decide +kernel)) ?_
  refine ak (ok_iload_n (k := 3) rfl (by decide +kernel)) ?_
  refine ak (ok_istore (by decide) (by decide +kernel)) ?_
  refine ak (ok_aload (by decide +kernel)) ?_
  refine ak (ok_get (k := 2) ck7 kd3 (by decide) (fun _ _ _ => rfl) (fun _ _ _ _ _ => trivial) tw181 (by decide +kernel)) ?_
  refine ak (ok_istore (by decide) (by decide +kernel)) ?_
  refine ak (ok_iconst (n := 1) (by decide) (by decide +kernel)) ?_
  refine ak (ok_istore (by decide) (by decide +kernel)) ?_
  refine ak (ok_iload (by decide +kernel)) ?_
  refine ak (ok_sipush (n := 400) (by decide) (by decide +kernel)) ?_
  refine ak (ok_icmp_gt (off := 41) (by decide) (by decide +kernel)) ?_
  refine ak (ok_iload (by decide +kernel)) ?_
  refine ak (ok_iload (by decide +kernel)) ?_
  refine ak (ok_isub (by decide +kernel)) ?_
  refine ak (ok_aload (by decide +kernel)) ?_
  refine ak (ok_get (k := 3) ck7 kd3 (by decide) (fun _ _ _ => rfl) (fun _ _ _ _ _ => trivial) tw183 (by decide +kernel)) ?_
  refine ak (ok_bipush (n := 10) (by decide) (by decide +kernel)) ?_
  refine ak (ok_idiv (by decide +kernel)) ?_
  refine ak (ok_iadd (by decide +kernel)) ?_
  refine ak (ok_aload (by decide +kernel)) ?_
  refine ak (ok_get (k := 2) ck7 kd3 (by decide) (fun _ _ _ => rfl) (fun _ _ _ _ _ => trivial) tw181 (by decide +kernel)) ?_
  refine ak (ok_mmin (by decide) tw969 tw581 tw109 twMmin (by decide +kernel)) ?_
  refine ak (ok_istore (by decide) (by decide +kernel)) ?_
  refine ak (ok_iload (by decide +kernel)) ?_
  refine ak (ok_if_gt (off := 6) (by decide) (by decide +kernel)) ?_
  refine ak (ok_iload (by decide +kernel)) ?_
  refine ak (ok_ireturn rfl (by decide +kernel)) ?_
  refine ak (ok_iinc (n := 1) (by decide) (by decide) (by decide +kernel)) ?_
  refine ak (ok_goto (off := (-43)) (by decide) (by decide +kernel)) ?_
  refine ak (ok_aload_n (k := 0) rfl (by decide +kernel)) ?_
  refine ak (ok_iconst (n := 2) (by decide) (by decide +kernel)) ?_
  refine ak (ok_invV (r := 0) (kF_finding hsd l) qF_finding ck10 kd0 iF_finding tw557 tw0 (by decide) tw555 (by decide +kernel)) ?_
  refine ak (ok_ireturn rfl (by decide +kernel)) ?_
  exact trivial
def KF_hold_78 (j78 : Nat → Nat → Int32 → Int32 → Int32 → Mem → Option (Int32 × Mem)) : Jm (Int32 × Mem) := fun t als st M =>
  if t = 78 then (match als, st with
  | [.inr (.inr (.inl (al0, bl0, cl0))), _, _, _, _, .inr (.inr (.inl (al5, w5, i5))), .inl x6, .inl x7, .inl x8], [] => if al0 = 0 ∧ bl0 = 0 ∧ cl0 = 0 ∧ al5 = 3 then j78 w5 i5 x6 x7 x8 M else none
  | _, _ => none) else
  none
set_option maxRecDepth 1000000 in
theorem eF_hold_78 (j78 : Nat → Nat → Int32 → Int32 → Int32 → Mem → Option (Int32 × Mem)) (w5 : Nat) (i5 : Nat) (x6 : Int32) (x7 : Int32) (x8 : Int32) (M : Mem) (u1 u2 u3 u4 : AV) : run (cF_hold) (KF_hold_78 j78) rtI 400 (seek (cF_hold) 78) [aR (0, 0, 0), u1, u2, u3, u4, aR (3, w5, i5), aI x6, aI x7, aI x8] [] M = mF_hold_78b j78 w5 i5 x6 x7 x8 M := id rfl
theorem lF_hold_78 {E : EV} {l : Launch} {p : Program} {e : Env} {s : State} {m : MethodId} {args : Array Value} {below : List Frame} {meth : Method} {c : Code} (A : AllOK E l 3 "FreeLances" prog_1_method_36_code 9 (some .int) outI (cF_hold)) (C : Cx E p s m args meth c "FreeLances" prog_1_method_36_code 9 (some .int)) : ∀ (n : Nat), ∀ (w5 : Nat) (i5 : Nat) (x6 : Int32) (x7 : Int32) (x8 : Int32) (M : Mem) (res : (Int32 × Mem)), mF_hold_78 n w5 i5 x6 x7 x8 M = some res → ∀ (u1 u2 u3 u4 : AV), Wm E p l e 3 s m args below meth c 9 78 [aR (0, 0, 0), u1, u2, u3, u4, aR (3, w5, i5), aI x6, aI x7, aI x8] [] M (outI res).1 (outI res).2 := by
  intro n
  induction n with
  | zero => intro _ _ _ _ _ M res h; cases h
  | succ n ih =>
    intro w5 i5 x6 x7 x8 M res h u1 u2 u3 u4
    refine run_at C A rfl hrtI (n := 400) ((eF_hold_78 (mF_hold_78 n) w5 i5 x6 x7 x8 M u1 u2 u3 u4).trans h) ?_
    intro t als st M hk
    unfold KF_hold_78 at hk
    split at hk
    · rename_i ht
      subst ht
      split at hk
      · split at hk
        · rename_i hc
          obtain ⟨rfl, rfl, rfl, rfl⟩ := hc
          exact ih _ _ _ _ _ _ _ hk _ _ _ _
        · cases hk
      · cases hk
    cases hk
def KF_hold (j78 : Nat → Nat → Int32 → Int32 → Int32 → Mem → Option (Int32 × Mem)) : Jm (Int32 × Mem) := fun t als st M =>
  if t = 78 then (match als, st with
  | [.inr (.inr (.inl (al0, bl0, cl0))), _, _, _, _, .inr (.inr (.inl (al5, w5, i5))), .inl x6, .inl x7, .inl x8], [] => if al0 = 0 ∧ bl0 = 0 ∧ cl0 = 0 ∧ al5 = 3 then j78 w5 i5 x6 x7 x8 M else none
  | _, _ => none) else
  none
set_option maxRecDepth 1000000 in
theorem eF_hold (j78 : Nat → Nat → Int32 → Int32 → Int32 → Mem → Option (Int32 × Mem)) (x1 : Int32) (x2 : Int32) (x3 : Int32) (x4 : Int32) (M : Mem) : run (cF_hold) (KF_hold j78) rtI 400 (seek (cF_hold) 0) [aR (0, 0, 0), aI x1, aI x2, aI x3, aI x4, aU, aU, aU, aU] [] M = mF_holdb j78 x1 x2 x3 x4 M := id rfl
theorem lF_hold {E : EV} {l : Launch} {p : Program} {e : Env} {s : State} {m : MethodId} {args : Array Value} {below : List Frame} {meth : Method} {c : Code} (A : AllOK E l 3 "FreeLances" prog_1_method_36_code 9 (some .int) outI (cF_hold)) (C : Cx E p s m args meth c "FreeLances" prog_1_method_36_code 9 (some .int)) : ∀ (x1 : Int32) (x2 : Int32) (x3 : Int32) (x4 : Int32) (M : Mem) (res : (Int32 × Mem)), mF_hold x1 x2 x3 x4 M = some res → Wm E p l e 3 s m args below meth c 9 0 [aR (0, 0, 0), aI x1, aI x2, aI x3, aI x4, aU, aU, aU, aU] [] M (outI res).1 (outI res).2 := by
  intro x1 x2 x3 x4 M res h
  refine run_at C A rfl hrtI (n := 400) ((eF_hold (mF_hold_78 fuel) x1 x2 x3 x4 M).trans h) ?_
  intro t als st M hk
  unfold KF_hold at hk
  split at hk
  · rename_i ht
    subst ht
    split at hk
    · split at hk
      · rename_i hc
        obtain ⟨rfl, rfl, rfl, rfl⟩ := hc
        exact lF_hold_78 A C _ _ _ _ _ _ _ _ hk _ _ _ _
      · cases hk
    · cases hk
  cases hk
def dF_hold {β : Type} : Den β := fun as M k => match as with
  | [.inr (.inr (.inl (al0, bl0, cl0))), .inl x1, .inl x2, .inl x3, .inl x4] => if al0 = 0 ∧ bl0 = 0 ∧ cl0 = 0 then (mF_hold x1 x2 x3 x4 M).bind fun q => k (aI q.1) q.2 else none
  | _ => none
theorem wF_hold {E : EV} (hsd : E.2.2.2 = 0) (l : Launch) (x1 : Int32) (x2 : Int32) (x3 : Int32) (x4 : Int32) (M : Mem) (q : (Int32 × Mem)) (hq : mF_hold x1 x2 x3 x4 M = some q) : Con E l 3 yF_hold prog_1_method_36_code 9 (some .int) [aR (0, 0, 0), aI x1, aI x2, aI x3, aI x4] M (outI q).1 (outI q).2 := by
  refine con_of iF_hold (Nat.le_of_ble_eq_true rfl) ?_
  intro p e s m args below meth c C
  exact lF_hold (oF_hold hsd l) C x1 x2 x3 x4 M _ hq
theorem kF_hold {E : EV} (hsd : E.2.2.2 = 0) (l : Launch) {β : Type} : DenOK E l 3 yF_hold prog_1_method_36_code 9 (some .int) true (dF_hold (β := β)) := by
  intro as M k res h
  unfold dF_hold at h
  split at h
  ·
    split at h
    · rename_i hc
      obtain ⟨rfl, rfl, rfl⟩ := hc
      obtain ⟨q, hq, hk⟩ := Option.bind_eq_some_iff.mp h
      exact ⟨aI q.1, q.2, hk, rfl, wF_hold hsd l _ _ _ _ M q hq⟩
    · cases h
  · cases h
theorem qF_hold {β : Type} : RecOK 0 (dF_hold (β := β)) := by
  intro as M k res h
  unfold dF_hold at h
  split at h
  ·
    split at h
    · rename_i hc
      obtain ⟨rfl, rfl, rfl⟩ := hc
      exact ⟨_, _, _, rfl⟩
    · cases h
  · cases h
