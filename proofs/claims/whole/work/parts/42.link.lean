/-! ===== FreeLancesModel.run(I)V ===== -/
abbrev yK_run : MethodName := ⟨"FreeLancesModel", "run", "(I)V"⟩
theorem iK_run : MI yK_run prog_13_method_99_code 4 none 1 := ⟨tw1702, tw108, ⟨by decide, by decide⟩, by decide +kernel, by decide, by decide⟩
def cK_run : List (Ent Mem) := [(false, 0, 1, sC 0),
  (false, 1, 1, sStI 2),
  (true, 2, 1, sLdI 2),
  (false, 3, 1, sLdI 1),
  (false, 4, 3, sCmpGe 161),
  (false, 7, 1, sLdA 0),
  (false, 8, 3, sGet 40 (fun w i M => aR (41, 0, 0))),
  (false, 11, 2, sC 6),
  (false, 13, 1, sDup2),
  (false, 14, 1, sIald 41 1502),
  (false, 15, 1, sC 1),
  (false, 16, 1, sBin (fun x y => x + y)),
  (false, 17, 1, sIast 41 1502),
  (false, 18, 1, sC 0),
  (false, 19, 1, sStI 3),
  (true, 20, 1, sLdI 3),
  (false, 21, 1, sLdA 0),
  (false, 22, 3, sGet 40 (fun w i M => aR (41, 0, 0))),
  (false, 25, 1, sC 2),
  (false, 26, 1, sIald 41 1502),
  (false, 27, 3, sCmpGe 73),
  (false, 30, 1, sLdA 0),
  (false, 31, 1, sLdI 3),
  (false, 32, 1, sC 2),
  (false, 33, 3, sInv 3 true dK_own),
  (false, 36, 3, sIfGe 67),
  (false, 39, 1, sLdA 0),
  (false, 40, 1, sLdI 3),
  (false, 41, 1, sC 4),
  (false, 42, 3, sInv 3 true dK_own),
  (false, 45, 1, sLdA 0),
  (false, 46, 3, sGet 40 (fun w i M => aR (41, 0, 0))),
  (false, 49, 2, sC 6),
  (false, 51, 1, sIald 41 1502),
  (false, 52, 3, sCmpNe 67),
  (false, 55, 1, sLdA 0),
  (false, 56, 1, sLdI 3),
  (false, 57, 1, sC 2),
  (false, 58, 1, sLdA 0),
  (false, 59, 1, sLdI 3),
  (false, 60, 1, sC 3),
  (false, 61, 3, sInv 3 true dK_own),
  (false, 64, 3, sInv 4 false dK_sets),
  (false, 67, 3, sInc 3 1),
  (false, 70, 3, sGoto 20),
  (false, 73, 1, sC 0),
  (false, 74, 1, sStI 3),
  (true, 75, 1, sLdI 3),
  (false, 76, 1, sLdA 0),
  (false, 77, 3, sGet 40 (fun w i M => aR (41, 0, 0))),
  (false, 80, 1, sC 2),
  (false, 81, 1, sIald 41 1502),
  (false, 82, 3, sCmpGe 96),
  (false, 85, 1, sLdA 0),
  (false, 86, 1, sLdI 3),
  (false, 87, 3, sInv 2 false dK_eats),
  (false, 90, 3, sInc 3 1),
  (false, 93, 3, sGoto 75),
  (false, 96, 1, sC 0),
  (false, 97, 1, sStI 3),
  (true, 98, 1, sLdI 3),
  (false, 99, 1, sLdA 0),
  (false, 100, 3, sGet 40 (fun w i M => aR (41, 0, 0))),
  (false, 103, 1, sC 5),
  (false, 104, 1, sIald 41 1502),
  (false, 105, 3, sCmpGe 155),
  (false, 108, 1, sLdA 0),
  (false, 109, 3, sGet 40 (fun w i M => aR (41, 0, 0))),
  (false, 112, 2, sC 6),
  (false, 114, 1, sIald 41 1502),
  (false, 115, 2, sC 30),
  (false, 117, 1, sBin0 (fun x y => x - x / y * y)),
  (false, 118, 3, sIfNe 155),
  (false, 121, 1, sLdA 0),
  (false, 122, 1, sLdI 3),
  (false, 123, 3, sInv 2 true dK_isContract),
  (false, 126, 3, sIfEq 149),
  (false, 129, 1, sLdA 0),
  (false, 130, 1, sLdI 3),
  (false, 131, 1, sLdA 0),
  (false, 132, 3, sGet 40 (fun w i M => aR (41, 0, 0))),
  (false, 135, 2, sC 6),
  (false, 137, 1, sIald 41 1502),
  (false, 138, 3, sInv 3 true dK_isIn),
  (false, 141, 3, sIfEq 149),
  (false, 144, 1, sLdA 0),
  (false, 145, 1, sLdI 3),
  (false, 146, 3, sInv 2 false dK_month),
  (false, 149, 3, sInc 3 1),
  (false, 152, 3, sGoto 98),
  (false, 155, 3, sInc 2 1),
  (false, 158, 3, sGoto 2),
  (false, 161, 1, sRetV)]
theorem oK_run {E : EV} (hsd : E.2.2.2 = 1) (l : Launch) : AllOK E l 4 "FreeLancesModel" prog_13_method_99_code 4 none outV (cK_run) := by
  refine ak (ok_iconst (n := 0) (by decide) (by decide +kernel)) ?_
  refine ak (ok_istore_n (k := 2) rfl (by decide) (by decide +kernel)) ?_
  refine ak (ok_iload_n (k := 2) rfl (by decide +kernel)) ?_
  refine ak (ok_iload_n (k := 1) rfl (by decide +kernel)) ?_
  refine ak (ok_icmp_ge (off := 157) (by decide) (by decide +kernel)) ?_
  refine ak (ok_aload_n (k := 0) rfl (by decide +kernel)) ?_
  refine ak (ok_get (k := 0) ck11 kd40 (by decide) (fun _ _ _ => rfl) (vf_40_0 hsd) tw1242 (by decide +kernel)) ?_
  refine ak (ok_bipush (n := 6) (by decide) (by decide +kernel)) ?_
  refine ak (ok_dup2 (by decide +kernel)) ?_
  refine ak (ok_iald kd41 (by decide) (by decide +kernel)) ?_
  refine ak (ok_iconst (n := 1) (by decide) (by decide +kernel)) ?_
  refine ak (ok_iadd (by decide +kernel)) ?_
  refine ak (ok_iast kd41 (by decide) (by decide) (by decide +kernel)) ?_
  refine ak (ok_iconst (n := 0) (by decide) (by decide +kernel)) ?_
  refine ak (ok_istore_n (k := 3) rfl (by decide) (by decide +kernel)) ?_
  refine ak (ok_iload_n (k := 3) rfl (by decide +kernel)) ?_
  refine ak (ok_aload_n (k := 0) rfl (by decide +kernel)) ?_
  refine ak (ok_get (k := 0) ck11 kd40 (by decide) (fun _ _ _ => rfl) (vf_40_0 hsd) tw1242 (by decide +kernel)) ?_
  refine ak (ok_iconst (n := 2) (by decide) (by decide +kernel)) ?_
  refine ak (ok_iald kd41 (by decide) (by decide +kernel)) ?_
  refine ak (ok_icmp_ge (off := 46) (by decide) (by decide +kernel)) ?_
  refine ak (ok_aload_n (k := 0) rfl (by decide +kernel)) ?_
  refine ak (ok_iload_n (k := 3) rfl (by decide +kernel)) ?_
  refine ak (ok_iconst (n := 2) (by decide) (by decide +kernel)) ?_
  refine ak (ok_invV (r := 40) (kK_own hsd l) qK_own ck11 kd40 iK_own tw1363 tw41 (by decide) tw1361 (by decide +kernel)) ?_
  refine ak (ok_if_ge (off := 31) (by decide) (by decide +kernel)) ?_
  refine ak (ok_aload_n (k := 0) rfl (by decide +kernel)) ?_
  refine ak (ok_iload_n (k := 3) rfl (by decide +kernel)) ?_
  refine ak (ok_iconst (n := 4) (by decide) (by decide +kernel)) ?_
  refine ak (ok_invV (r := 40) (kK_own hsd l) qK_own ck11 kd40 iK_own tw1363 tw41 (by decide) tw1361 (by decide +kernel)) ?_
  refine ak (ok_aload_n (k := 0) rfl (by decide +kernel)) ?_
  refine ak (ok_get (k := 0) ck11 kd40 (by decide) (fun _ _ _ => rfl) (vf_40_0 hsd) tw1242 (by decide +kernel)) ?_
  refine ak (ok_bipush (n := 6) (by decide) (by decide +kernel)) ?_
  refine ak (ok_iald kd41 (by decide) (by decide +kernel)) ?_
  refine ak (ok_icmp_ne (off := 15) (by decide) (by decide +kernel)) ?_
  refine ak (ok_aload_n (k := 0) rfl (by decide +kernel)) ?_
  refine ak (ok_iload_n (k := 3) rfl (by decide +kernel)) ?_
  refine ak (ok_iconst (n := 2) (by decide) (by decide +kernel)) ?_
  refine ak (ok_aload_n (k := 0) rfl (by decide +kernel)) ?_
  refine ak (ok_iload_n (k := 3) rfl (by decide +kernel)) ?_
  refine ak (ok_iconst (n := 3) (by decide) (by decide +kernel)) ?_
  refine ak (ok_invV (r := 40) (kK_own hsd l) qK_own ck11 kd40 iK_own tw1363 tw41 (by decide) tw1361 (by decide +kernel)) ?_
  refine ak (ok_invV (r := 40) (kK_sets hsd l) qK_sets ck11 kd40 iK_sets tw1384 tw43 (by decide) tw1382 (by decide +kernel)) ?_
  refine ak (ok_iinc (n := 1) (by decide) (by decide) (by decide +kernel)) ?_
  refine ak (ok_goto (off := (-50)) (by decide) (by decide +kernel)) ?_
  refine ak (ok_iconst (n := 0) (by decide) (by decide +kernel)) ?_
  refine ak (ok_istore_n (k := 3) rfl (by decide) (by decide +kernel)) ?_
  refine ak (ok_iload_n (k := 3) rfl (by decide +kernel)) ?_
  refine ak (ok_aload_n (k := 0) rfl (by decide +kernel)) ?_
  refine ak (ok_get (k := 0) ck11 kd40 (by decide) (fun _ _ _ => rfl) (vf_40_0 hsd) tw1242 (by decide +kernel)) ?_
  refine ak (ok_iconst (n := 2) (by decide) (by decide +kernel)) ?_
  refine ak (ok_iald kd41 (by decide) (by decide +kernel)) ?_
  refine ak (ok_icmp_ge (off := 14) (by decide) (by decide +kernel)) ?_
  refine ak (ok_aload_n (k := 0) rfl (by decide +kernel)) ?_
  refine ak (ok_iload_n (k := 3) rfl (by decide +kernel)) ?_
  refine ak (ok_invV (r := 40) (kK_eats hsd l) qK_eats ck11 kd40 iK_eats tw1705 tw82 (by decide) tw1703 (by decide +kernel)) ?_
  refine ak (ok_iinc (n := 1) (by decide) (by decide) (by decide +kernel)) ?_
  refine ak (ok_goto (off := (-18)) (by decide) (by decide +kernel)) ?_
  refine ak (ok_iconst (n := 0) (by decide) (by decide +kernel)) ?_
  refine ak (ok_istore_n (k := 3) rfl (by decide) (by decide +kernel)) ?_
  refine ak (ok_iload_n (k := 3) rfl (by decide +kernel)) ?_
  refine ak (ok_aload_n (k := 0) rfl (by decide +kernel)) ?_
  refine ak (ok_get (k := 0) ck11 kd40 (by decide) (fun _ _ _ => rfl) (vf_40_0 hsd) tw1242 (by decide +kernel)) ?_
  refine ak (ok_iconst (n := 5) (by decide) (by decide +kernel)) ?_
  refine ak (ok_iald kd41 (by decide) (by decide +kernel)) ?_
  refine ak (ok_icmp_ge (off := 50) (by decide) (by decide +kernel)) ?_
  refine ak (ok_aload_n (k := 0) rfl (by decide +kernel)) ?_
  refine ak (ok_get (k := 0) ck11 kd40 (by decide) (fun _ _ _ => rfl) (vf_40_0 hsd) tw1242 (by decide +kernel)) ?_
  refine ak (ok_bipush (n := 6) (by decide) (by decide +kernel)) ?_
  refine ak (ok_iald kd41 (by decide) (by decide +kernel)) ?_
  refine ak (ok_bipush (n := 30) (by decide) (by decide +kernel)) ?_
  refine ak (ok_irem (by decide +kernel)) ?_
  refine ak (ok_if_ne (off := 37) (by decide) (by decide +kernel)) ?_
  refine ak (ok_aload_n (k := 0) rfl (by decide +kernel)) ?_
  refine ak (ok_iload_n (k := 3) rfl (by decide +kernel)) ?_
  refine ak (ok_invV (r := 40) (kK_isContract hsd l) qK_isContract ck11 kd40 iK_isContract tw1416 tw48 (by decide) tw1414 (by decide +kernel)) ?_
  refine ak (ok_if_eq (off := 23) (by decide) (by decide +kernel)) ?_
  refine ak (ok_aload_n (k := 0) rfl (by decide +kernel)) ?_
  refine ak (ok_iload_n (k := 3) rfl (by decide +kernel)) ?_
  refine ak (ok_aload_n (k := 0) rfl (by decide +kernel)) ?_
  refine ak (ok_get (k := 0) ck11 kd40 (by decide) (fun _ _ _ => rfl) (vf_40_0 hsd) tw1242 (by decide +kernel)) ?_
  refine ak (ok_bipush (n := 6) (by decide) (by decide +kernel)) ?_
  refine ak (ok_iald kd41 (by decide) (by decide +kernel)) ?_
  refine ak (ok_invV (r := 40) (kK_isIn hsd l) qK_isIn ck11 kd40 iK_isIn tw1424 tw50 (by decide) tw1422 (by decide +kernel)) ?_
  refine ak (ok_if_eq (off := 8) (by decide) (by decide +kernel)) ?_
  refine ak (ok_aload_n (k := 0) rfl (by decide +kernel)) ?_
  refine ak (ok_iload_n (k := 3) rfl (by decide +kernel)) ?_
  refine ak (ok_invV (r := 40) (kK_month hsd l) qK_month ck11 kd40 iK_month tw1713 tw84 (by decide) tw1711 (by decide +kernel)) ?_
  refine ak (ok_iinc (n := 1) (by decide) (by decide) (by decide +kernel)) ?_
  refine ak (ok_goto (off := (-54)) (by decide) (by decide +kernel)) ?_
  refine ak (ok_iinc (n := 1) (by decide) (by decide) (by decide +kernel)) ?_
  refine ak (ok_goto (off := (-156)) (by decide) (by decide +kernel)) ?_
  refine ak (ok_return rfl (by decide +kernel)) ?_
  exact trivial
def KK_run_98 (j2 : Int32 → Int32 → Mem → Option Mem) (j98 : Int32 → Int32 → Int32 → Mem → Option Mem) : Jm Mem := fun t als st M =>
  if t = 2 then (match als, st with
  | [.inr (.inr (.inl (al0, bl0, cl0))), .inl x1, .inl x2, _], [] => if al0 = 40 ∧ bl0 = 0 ∧ cl0 = 0 then j2 x1 x2 M else none
  | _, _ => none) else
  if t = 98 then (match als, st with
  | [.inr (.inr (.inl (al0, bl0, cl0))), .inl x1, .inl x2, .inl x3], [] => if al0 = 40 ∧ bl0 = 0 ∧ cl0 = 0 then j98 x1 x2 x3 M else none
  | _, _ => none) else
  none
set_option maxRecDepth 1000000 in
theorem eK_run_98 (j2 : Int32 → Int32 → Mem → Option Mem) (j98 : Int32 → Int32 → Int32 → Mem → Option Mem) (x1 : Int32) (x2 : Int32) (x3 : Int32) (M : Mem) : run (cK_run) (KK_run_98 j2 j98) rtV 400 (seek (cK_run) 98) [aR (40, 0, 0), aI x1, aI x2, aI x3] [] M = mK_run_98b j2 j98 x1 x2 x3 M := id rfl
theorem lK_run_98 {E : EV} {l : Launch} {p : Program} {e : Env} {s : State} {m : MethodId} {args : Array Value} {below : List Frame} {meth : Method} {c : Code} (A : AllOK E l 4 "FreeLancesModel" prog_13_method_99_code 4 none outV (cK_run)) (C : Cx E p s m args meth c "FreeLancesModel" prog_13_method_99_code 4 none) {r2 : Int32 → Int32 → Mem → Option Mem} (H2 : ∀ (x1 : Int32) (x2 : Int32) (M : Mem) (res : Mem), r2 x1 x2 M = some res → ∀ (u3 : AV), Wm E p l e 4 s m args below meth c 4 2 [aR (40, 0, 0), aI x1, aI x2, u3] [] M (outV res).1 (outV res).2) : ∀ (n : Nat), ∀ (x1 : Int32) (x2 : Int32) (x3 : Int32) (M : Mem) (res : Mem), mK_run_98 r2 n x1 x2 x3 M = some res → Wm E p l e 4 s m args below meth c 4 98 [aR (40, 0, 0), aI x1, aI x2, aI x3] [] M (outV res).1 (outV res).2 := by
  intro n
  induction n with
  | zero => intro _ _ _ M res h; cases h
  | succ n ih =>
    intro x1 x2 x3 M res h
    refine run_at C A rfl hrtV (n := 400) ((eK_run_98 r2 (mK_run_98 r2 n) x1 x2 x3 M).trans h) ?_
    intro t als st M hk
    unfold KK_run_98 at hk
    split at hk
    · rename_i ht
      subst ht
      split at hk
      · split at hk
        · rename_i hc
          obtain ⟨rfl, rfl, rfl⟩ := hc
          exact H2 _ _ _ _ hk _
        · cases hk
      · cases hk
    split at hk
    · rename_i ht
      subst ht
      split at hk
      · split at hk
        · rename_i hc
          obtain ⟨rfl, rfl, rfl⟩ := hc
          exact ih _ _ _ _ _ hk
        · cases hk
      · cases hk
    cases hk
def KK_run_75 (j75 : Int32 → Int32 → Int32 → Mem → Option Mem) (j98 : Int32 → Int32 → Int32 → Mem → Option Mem) : Jm Mem := fun t als st M =>
  if t = 75 then (match als, st with
  | [.inr (.inr (.inl (al0, bl0, cl0))), .inl x1, .inl x2, .inl x3], [] => if al0 = 40 ∧ bl0 = 0 ∧ cl0 = 0 then j75 x1 x2 x3 M else none
  | _, _ => none) else
  if t = 98 then (match als, st with
  | [.inr (.inr (.inl (al0, bl0, cl0))), .inl x1, .inl x2, .inl x3], [] => if al0 = 40 ∧ bl0 = 0 ∧ cl0 = 0 then j98 x1 x2 x3 M else none
  | _, _ => none) else
  none
set_option maxRecDepth 1000000 in
theorem eK_run_75 (j75 : Int32 → Int32 → Int32 → Mem → Option Mem) (j98 : Int32 → Int32 → Int32 → Mem → Option Mem) (x1 : Int32) (x2 : Int32) (x3 : Int32) (M : Mem) : run (cK_run) (KK_run_75 j75 j98) rtV 400 (seek (cK_run) 75) [aR (40, 0, 0), aI x1, aI x2, aI x3] [] M = mK_run_75b j75 j98 x1 x2 x3 M := id rfl
theorem lK_run_75 {E : EV} {l : Launch} {p : Program} {e : Env} {s : State} {m : MethodId} {args : Array Value} {below : List Frame} {meth : Method} {c : Code} (A : AllOK E l 4 "FreeLancesModel" prog_13_method_99_code 4 none outV (cK_run)) (C : Cx E p s m args meth c "FreeLancesModel" prog_13_method_99_code 4 none) {r2 : Int32 → Int32 → Mem → Option Mem} (H2 : ∀ (x1 : Int32) (x2 : Int32) (M : Mem) (res : Mem), r2 x1 x2 M = some res → ∀ (u3 : AV), Wm E p l e 4 s m args below meth c 4 2 [aR (40, 0, 0), aI x1, aI x2, u3] [] M (outV res).1 (outV res).2) : ∀ (n : Nat), ∀ (x1 : Int32) (x2 : Int32) (x3 : Int32) (M : Mem) (res : Mem), mK_run_75 r2 n x1 x2 x3 M = some res → Wm E p l e 4 s m args below meth c 4 75 [aR (40, 0, 0), aI x1, aI x2, aI x3] [] M (outV res).1 (outV res).2 := by
  intro n
  induction n with
  | zero => intro _ _ _ M res h; cases h
  | succ n ih =>
    intro x1 x2 x3 M res h
    refine run_at C A rfl hrtV (n := 400) ((eK_run_75 (mK_run_75 r2 n) (mK_run_98 r2 fuel) x1 x2 x3 M).trans h) ?_
    intro t als st M hk
    unfold KK_run_75 at hk
    split at hk
    · rename_i ht
      subst ht
      split at hk
      · split at hk
        · rename_i hc
          obtain ⟨rfl, rfl, rfl⟩ := hc
          exact ih _ _ _ _ _ hk
        · cases hk
      · cases hk
    split at hk
    · rename_i ht
      subst ht
      split at hk
      · split at hk
        · rename_i hc
          obtain ⟨rfl, rfl, rfl⟩ := hc
          exact lK_run_98 A C H2 _ _ _ _ _ _ hk
        · cases hk
      · cases hk
    cases hk
def KK_run_20 (j20 : Int32 → Int32 → Int32 → Mem → Option Mem) (j75 : Int32 → Int32 → Int32 → Mem → Option Mem) : Jm Mem := fun t als st M =>
  if t = 20 then (match als, st with
  | [.inr (.inr (.inl (al0, bl0, cl0))), .inl x1, .inl x2, .inl x3], [] => if al0 = 40 ∧ bl0 = 0 ∧ cl0 = 0 then j20 x1 x2 x3 M else none
  | _, _ => none) else
  if t = 75 then (match als, st with
  | [.inr (.inr (.inl (al0, bl0, cl0))), .inl x1, .inl x2, .inl x3], [] => if al0 = 40 ∧ bl0 = 0 ∧ cl0 = 0 then j75 x1 x2 x3 M else none
  | _, _ => none) else
  none
set_option maxRecDepth 1000000 in
theorem eK_run_20 (j20 : Int32 → Int32 → Int32 → Mem → Option Mem) (j75 : Int32 → Int32 → Int32 → Mem → Option Mem) (x1 : Int32) (x2 : Int32) (x3 : Int32) (M : Mem) : run (cK_run) (KK_run_20 j20 j75) rtV 400 (seek (cK_run) 20) [aR (40, 0, 0), aI x1, aI x2, aI x3] [] M = mK_run_20b j20 j75 x1 x2 x3 M := id rfl
theorem lK_run_20 {E : EV} {l : Launch} {p : Program} {e : Env} {s : State} {m : MethodId} {args : Array Value} {below : List Frame} {meth : Method} {c : Code} (A : AllOK E l 4 "FreeLancesModel" prog_13_method_99_code 4 none outV (cK_run)) (C : Cx E p s m args meth c "FreeLancesModel" prog_13_method_99_code 4 none) {r2 : Int32 → Int32 → Mem → Option Mem} (H2 : ∀ (x1 : Int32) (x2 : Int32) (M : Mem) (res : Mem), r2 x1 x2 M = some res → ∀ (u3 : AV), Wm E p l e 4 s m args below meth c 4 2 [aR (40, 0, 0), aI x1, aI x2, u3] [] M (outV res).1 (outV res).2) : ∀ (n : Nat), ∀ (x1 : Int32) (x2 : Int32) (x3 : Int32) (M : Mem) (res : Mem), mK_run_20 r2 n x1 x2 x3 M = some res → Wm E p l e 4 s m args below meth c 4 20 [aR (40, 0, 0), aI x1, aI x2, aI x3] [] M (outV res).1 (outV res).2 := by
  intro n
  induction n with
  | zero => intro _ _ _ M res h; cases h
  | succ n ih =>
    intro x1 x2 x3 M res h
    refine run_at C A rfl hrtV (n := 400) ((eK_run_20 (mK_run_20 r2 n) (mK_run_75 r2 fuel) x1 x2 x3 M).trans h) ?_
    intro t als st M hk
    unfold KK_run_20 at hk
    split at hk
    · rename_i ht
      subst ht
      split at hk
      · split at hk
        · rename_i hc
          obtain ⟨rfl, rfl, rfl⟩ := hc
          exact ih _ _ _ _ _ hk
        · cases hk
      · cases hk
    split at hk
    · rename_i ht
      subst ht
      split at hk
      · split at hk
        · rename_i hc
          obtain ⟨rfl, rfl, rfl⟩ := hc
          exact lK_run_75 A C H2 _ _ _ _ _ _ hk
        · cases hk
      · cases hk
    cases hk
def KK_run_2 (j20 : Int32 → Int32 → Int32 → Mem → Option Mem) : Jm Mem := fun t als st M =>
  if t = 20 then (match als, st with
  | [.inr (.inr (.inl (al0, bl0, cl0))), .inl x1, .inl x2, .inl x3], [] => if al0 = 40 ∧ bl0 = 0 ∧ cl0 = 0 then j20 x1 x2 x3 M else none
  | _, _ => none) else
  none
set_option maxRecDepth 1000000 in
theorem eK_run_2 (j20 : Int32 → Int32 → Int32 → Mem → Option Mem) (x1 : Int32) (x2 : Int32) (M : Mem) (u3 : AV) : run (cK_run) (KK_run_2 j20) rtV 400 (seek (cK_run) 2) [aR (40, 0, 0), aI x1, aI x2, u3] [] M = mK_run_2b j20 x1 x2 M := id rfl
theorem lK_run_2 {E : EV} {l : Launch} {p : Program} {e : Env} {s : State} {m : MethodId} {args : Array Value} {below : List Frame} {meth : Method} {c : Code} (A : AllOK E l 4 "FreeLancesModel" prog_13_method_99_code 4 none outV (cK_run)) (C : Cx E p s m args meth c "FreeLancesModel" prog_13_method_99_code 4 none) : ∀ (n : Nat), ∀ (x1 : Int32) (x2 : Int32) (M : Mem) (res : Mem), mK_run_2 n x1 x2 M = some res → ∀ (u3 : AV), Wm E p l e 4 s m args below meth c 4 2 [aR (40, 0, 0), aI x1, aI x2, u3] [] M (outV res).1 (outV res).2 := by
  intro n
  induction n with
  | zero => intro _ _ M res h; cases h
  | succ n ih =>
    intro x1 x2 M res h u3
    refine run_at C A rfl hrtV (n := 400) ((eK_run_2 (mK_run_20 (mK_run_2 n) fuel) x1 x2 M u3).trans h) ?_
    intro t als st M hk
    unfold KK_run_2 at hk
    split at hk
    · rename_i ht
      subst ht
      split at hk
      · split at hk
        · rename_i hc
          obtain ⟨rfl, rfl, rfl⟩ := hc
          exact lK_run_20 A C ih _ _ _ _ _ _ hk
        · cases hk
      · cases hk
    cases hk
def KK_run (j2 : Int32 → Int32 → Mem → Option Mem) : Jm Mem := fun t als st M =>
  if t = 2 then (match als, st with
  | [.inr (.inr (.inl (al0, bl0, cl0))), .inl x1, .inl x2, _], [] => if al0 = 40 ∧ bl0 = 0 ∧ cl0 = 0 then j2 x1 x2 M else none
  | _, _ => none) else
  none
set_option maxRecDepth 1000000 in
theorem eK_run (j2 : Int32 → Int32 → Mem → Option Mem) (x1 : Int32) (M : Mem) : run (cK_run) (KK_run j2) rtV 400 (seek (cK_run) 0) [aR (40, 0, 0), aI x1, aU, aU] [] M = mK_runb j2 x1 M := id rfl
theorem lK_run {E : EV} {l : Launch} {p : Program} {e : Env} {s : State} {m : MethodId} {args : Array Value} {below : List Frame} {meth : Method} {c : Code} (A : AllOK E l 4 "FreeLancesModel" prog_13_method_99_code 4 none outV (cK_run)) (C : Cx E p s m args meth c "FreeLancesModel" prog_13_method_99_code 4 none) : ∀ (x1 : Int32) (M : Mem) (res : Mem), mK_run x1 M = some res → Wm E p l e 4 s m args below meth c 4 0 [aR (40, 0, 0), aI x1, aU, aU] [] M (outV res).1 (outV res).2 := by
  intro x1 M res h
  refine run_at C A rfl hrtV (n := 400) ((eK_run (mK_run_2 fuel) x1 M).trans h) ?_
  intro t als st M hk
  unfold KK_run at hk
  split at hk
  · rename_i ht
    subst ht
    split at hk
    · split at hk
      · rename_i hc
        obtain ⟨rfl, rfl, rfl⟩ := hc
        exact lK_run_2 A C _ _ _ _ _ hk _
      · cases hk
    · cases hk
  cases hk
def dK_run {β : Type} : Den β := fun as M k => match as with
  | [.inr (.inr (.inl (al0, bl0, cl0))), .inl x1] => if al0 = 40 ∧ bl0 = 0 ∧ cl0 = 0 then (mK_run x1 M).bind fun q => k aU q else none
  | _ => none
theorem wK_run {E : EV} (hsd : E.2.2.2 = 1) (l : Launch) (x1 : Int32) (M : Mem) (q : Mem) (hq : mK_run x1 M = some q) : Con E l 4 yK_run prog_13_method_99_code 4 none [aR (40, 0, 0), aI x1] M (outV q).1 (outV q).2 := by
  refine con_of iK_run (Nat.le_of_ble_eq_true rfl) ?_
  intro p e s m args below meth c C
  exact lK_run (oK_run hsd l) C x1 M _ hq
theorem kK_run {E : EV} (hsd : E.2.2.2 = 1) (l : Launch) {β : Type} : DenOK E l 4 yK_run prog_13_method_99_code 4 none false (dK_run (β := β)) := by
  intro as M k res h
  unfold dK_run at h
  split at h
  ·
    split at h
    · rename_i hc
      obtain ⟨rfl, rfl, rfl⟩ := hc
      obtain ⟨q, hq, hk⟩ := Option.bind_eq_some_iff.mp h
      exact ⟨aU, q, hk, rfl, wK_run hsd l _ M q hq⟩
    · cases h
  · cases h
theorem qK_run {β : Type} : RecOK 40 (dK_run (β := β)) := by
  intro as M k res h
  unfold dK_run at h
  split at h
  ·
    split at h
    · rename_i hc
      obtain ⟨rfl, rfl, rfl⟩ := hc
      exact ⟨_, _, _, rfl⟩
    · cases h
  · cases h
/-! ===== FreeLancesModel.days(I)I ===== -/
abbrev yK_days : MethodName := ⟨"FreeLancesModel", "days", "(I)I"⟩
theorem iK_days : MI yK_days prog_13_method_100_code 2 (some .int) 1 := ⟨tw1698, tw108, ⟨by decide, by decide⟩, by decide +kernel, by decide, by decide⟩
def cK_days : List (Ent (Int32 × Mem)) := [(false, 0, 1, sLdI 1),
  (false, 1, 1, sC 1),
  (false, 2, 3, sC 200),
  (false, 5, 3, sInv 3 true dK_in),
  (false, 8, 3, sIfEq 26),
  (false, 11, 1, sLdA 0),
  (false, 12, 3, sGet 40 (fun w i M => aR (41, 0, 0))),
  (false, 15, 2, sC 6),
  (false, 17, 1, sIald 41 1502),
  (false, 18, 1, sLdI 1),
  (false, 19, 1, sBin (fun x y => x + y)),
  (false, 20, 3, sC 3000),
  (false, 23, 3, sCmpLe 32),
  (false, 26, 1, sLdA 0),
  (false, 27, 1, sC 1),
  (false, 28, 3, sInv 2 true dK_finds),
  (false, 31, 1, sRetI),
  (false, 32, 1, sLdA 0),
  (false, 33, 1, sLdI 1),
  (false, 34, 3, sInv 2 false dK_run),
  (false, 37, 1, sLdA 0),
  (false, 38, 3, sGet 40 (fun w i M => aR (41, 0, 0))),
  (false, 41, 2, sC 6),
  (false, 43, 1, sIald 41 1502),
  (false, 44, 1, sRetI)]
theorem oK_days {E : EV} (hsd : E.2.2.2 = 1) (l : Launch) : AllOK E l 5 "FreeLancesModel" prog_13_method_100_code 2 (some .int) outI (cK_days) := by
  refine ak (ok_iload_n (k := 1) rfl (by decide +kernel)) ?_
  refine ak (ok_iconst (n := 1) (by decide) (by decide +kernel)) ?_
  refine ak (ok_sipush (n := 200) (by decide) (by decide +kernel)) ?_
  refine ak (ok_invS (kK_in hsd l) iK_in tw1330 (by decide) tw1329 (by decide +kernel)) ?_
  refine ak (ok_if_eq (off := 18) (by decide) (by decide +kernel)) ?_
  refine ak (ok_aload_n (k := 0) rfl (by decide +kernel)) ?_
  refine ak (ok_get (k := 0) ck11 kd40 (by decide) (fun _ _ _ => rfl) (vf_40_0 hsd) tw1242 (by decide +kernel)) ?_
  refine ak (ok_bipush (n := 6) (by decide) (by decide +kernel)) ?_
  refine ak (ok_iald kd41 (by decide) (by decide +kernel)) ?_
  refine ak (ok_iload_n (k := 1) rfl (by decide +kernel)) ?_
  refine ak (ok_iadd (by decide +kernel)) ?_
  refine ak (ok_sipush (n := 3000) (by decide) (by decide +kernel)) ?_
  refine ak (ok_icmp_le (off := 9) (by decide) (by decide +kernel)) ?_
  refine ak (ok_aload_n (k := 0) rfl (by decide +kernel)) ?_
  refine ak (ok_iconst (n := 1) (by decide) (by decide +kernel)) ?_
  refine ak (ok_invV (r := 40) (kK_finds hsd l) qK_finds ck11 kd40 iK_finds tw1334 tw37 (by decide) tw1332 (by decide +kernel)) ?_
  refine ak (ok_ireturn rfl (by decide +kernel)) ?_
  refine ak (ok_aload_n (k := 0) rfl (by decide +kernel)) ?_
  refine ak (ok_iload_n (k := 1) rfl (by decide +kernel)) ?_
  refine ak (ok_invV (r := 40) (kK_run hsd l) qK_run ck11 kd40 iK_run tw1701 tw81 (by decide) tw1699 (by decide +kernel)) ?_
  refine ak (ok_aload_n (k := 0) rfl (by decide +kernel)) ?_
  refine ak (ok_get (k := 0) ck11 kd40 (by decide) (fun _ _ _ => rfl) (vf_40_0 hsd) tw1242 (by decide +kernel)) ?_
  refine ak (ok_bipush (n := 6) (by decide) (by decide +kernel)) ?_
  refine ak (ok_iald kd41 (by decide) (by decide +kernel)) ?_
  refine ak (ok_ireturn rfl (by decide +kernel)) ?_
  exact trivial
set_option maxRecDepth 1000000 in
theorem eK_days (x1 : Int32) (M : Mem) : run (cK_days) (fun _ _ _ _ => none) rtI 400 (seek (cK_days) 0) [aR (40, 0, 0), aI x1] [] M = mK_days x1 M := id rfl
theorem lK_days {E : EV} {l : Launch} {p : Program} {e : Env} {s : State} {m : MethodId} {args : Array Value} {below : List Frame} {meth : Method} {c : Code} (A : AllOK E l 5 "FreeLancesModel" prog_13_method_100_code 2 (some .int) outI (cK_days)) (C : Cx E p s m args meth c "FreeLancesModel" prog_13_method_100_code 2 (some .int)) : ∀ (x1 : Int32) (M : Mem) (res : (Int32 × Mem)), mK_days x1 M = some res → Wm E p l e 5 s m args below meth c 2 0 [aR (40, 0, 0), aI x1] [] M (outI res).1 (outI res).2 := by
  intro x1 M res h
  refine run_at C A rfl hrtI (n := 400) ((eK_days x1 M).trans h) ?_
  intro t als st M hk; cases hk
def dK_days {β : Type} : Den β := fun as M k => match as with
  | [.inr (.inr (.inl (al0, bl0, cl0))), .inl x1] => if al0 = 40 ∧ bl0 = 0 ∧ cl0 = 0 then (mK_days x1 M).bind fun q => k (aI q.1) q.2 else none
  | _ => none
theorem wK_days {E : EV} (hsd : E.2.2.2 = 1) (l : Launch) (x1 : Int32) (M : Mem) (q : (Int32 × Mem)) (hq : mK_days x1 M = some q) : Con E l 5 yK_days prog_13_method_100_code 2 (some .int) [aR (40, 0, 0), aI x1] M (outI q).1 (outI q).2 := by
  refine con_of iK_days (Nat.le_of_ble_eq_true rfl) ?_
  intro p e s m args below meth c C
  exact lK_days (oK_days hsd l) C x1 M _ hq
theorem kK_days {E : EV} (hsd : E.2.2.2 = 1) (l : Launch) {β : Type} : DenOK E l 5 yK_days prog_13_method_100_code 2 (some .int) true (dK_days (β := β)) := by
  intro as M k res h
  unfold dK_days at h
  split at h
  ·
    split at h
    · rename_i hc
      obtain ⟨rfl, rfl, rfl⟩ := hc
      obtain ⟨q, hq, hk⟩ := Option.bind_eq_some_iff.mp h
      exact ⟨aI q.1, q.2, hk, rfl, wK_days hsd l _ M q hq⟩
    · cases h
  · cases h
theorem qK_days {β : Type} : RecOK 40 (dK_days (β := β)) := by
  intro as M k res h
  unfold dK_days at h
  split at h
  ·
    split at h
    · rename_i hc
      obtain ⟨rfl, rfl, rfl⟩ := hc
      exact ⟨_, _, _, rfl⟩
    · cases h
  · cases h
/-! ===== FreeLancesModel.seen(II)I ===== -/
abbrev yK_seen : MethodName := ⟨"FreeLancesModel", "seen", "(II)I"⟩
theorem iK_seen : MI yK_seen prog_13_method_101_code 3 (some .int) 2 := ⟨tw1722, tw108, ⟨by decide, by decide⟩, by decide +kernel, by decide, by decide⟩
def cK_seen : List (Ent (Int32 × Mem)) := [(false, 0, 1, sLdI 1),
  (false, 1, 39, sSw 82 [(0, 40), (1, 47), (2, 54), (3, 61), (4, 68), (5, 75)]),
  (false, 40, 1, sLdA 0),
  (false, 41, 1, sLdI 2),
  (false, 42, 1, sC 0),
  (false, 43, 3, sInv 3 true dK_ofTown),
  (false, 46, 1, sRetI),
  (false, 47, 1, sLdA 0),
  (false, 48, 1, sLdI 2),
  (false, 49, 1, sC 1),
  (false, 50, 3, sInv 3 true dK_ofTown),
  (false, 53, 1, sRetI),
  (false, 54, 1, sLdA 0),
  (false, 55, 1, sLdI 2),
  (false, 56, 1, sC 0),
  (false, 57, 3, sInv 3 true dK_own),
  (false, 60, 1, sRetI),
  (false, 61, 1, sLdA 0),
  (false, 62, 1, sLdI 2),
  (false, 63, 1, sC 1),
  (false, 64, 3, sInv 3 true dK_own),
  (false, 67, 1, sRetI),
  (false, 68, 1, sLdA 0),
  (false, 69, 1, sLdI 2),
  (false, 70, 1, sC 0),
  (false, 71, 3, sInv 3 true dK_manySo),
  (false, 74, 1, sRetI),
  (false, 75, 1, sLdA 0),
  (false, 76, 1, sLdI 2),
  (false, 77, 1, sC 1),
  (false, 78, 3, sInv 3 true dK_manySo),
  (false, 81, 1, sRetI),
  (false, 82, 1, sLdA 0),
  (false, 83, 1, sLdI 2),
  (false, 84, 2, sC 8),
  (false, 86, 3, sInv 3 true dK_bond),
  (false, 89, 1, sRetI)]
theorem oK_seen {E : EV} (hsd : E.2.2.2 = 1) (l : Launch) : AllOK E l 3 "FreeLancesModel" prog_13_method_101_code 3 (some .int) outI (cK_seen) := by
  refine ak (ok_iload_n (k := 1) rfl (by decide +kernel)) ?_
  refine ak (ok_table (df := 81) (lo := 0) (hi := 5) (offs := #[39, 46, 53, 60, 67, 74]) (by decide) (by decide) (by decide) (by decide +kernel)) ?_
  refine ak (ok_aload_n (k := 0) rfl (by decide +kernel)) ?_
  refine ak (ok_iload_n (k := 2) rfl (by decide +kernel)) ?_
  refine ak (ok_iconst (n := 0) (by decide) (by decide +kernel)) ?_
  refine ak (ok_invV (r := 40) (kK_ofTown hsd l) qK_ofTown ck11 kd40 iK_ofTown tw1359 tw40 (by decide) tw1357 (by decide +kernel)) ?_
  refine ak (ok_ireturn rfl (by decide +kernel)) ?_
  refine ak (ok_aload_n (k := 0) rfl (by decide +kernel)) ?_
  refine ak (ok_iload_n (k := 2) rfl (by decide +kernel)) ?_
  refine ak (ok_iconst (n := 1) (by decide) (by decide +kernel)) ?_
  refine ak (ok_invV (r := 40) (kK_ofTown hsd l) qK_ofTown ck11 kd40 iK_ofTown tw1359 tw40 (by decide) tw1357 (by decide +kernel)) ?_
  refine ak (ok_ireturn rfl (by decide +kernel)) ?_
  refine ak (ok_aload_n (k := 0) rfl (by decide +kernel)) ?_
  refine ak (ok_iload_n (k := 2) rfl (by decide +kernel)) ?_
  refine ak (ok_iconst (n := 0) (by decide) (by decide +kernel)) ?_
  refine ak (ok_invV (r := 40) (kK_own hsd l) qK_own ck11 kd40 iK_own tw1363 tw41 (by decide) tw1361 (by decide +kernel)) ?_
  refine ak (ok_ireturn rfl (by decide +kernel)) ?_
  refine ak (ok_aload_n (k := 0) rfl (by decide +kernel)) ?_
  refine ak (ok_iload_n (k := 2) rfl (by decide +kernel)) ?_
  refine ak (ok_iconst (n := 1) (by decide) (by decide +kernel)) ?_
  refine ak (ok_invV (r := 40) (kK_own hsd l) qK_own ck11 kd40 iK_own tw1363 tw41 (by decide) tw1361 (by decide +kernel)) ?_
  refine ak (ok_ireturn rfl (by decide +kernel)) ?_
  refine ak (ok_aload_n (k := 0) rfl (by decide +kernel)) ?_
  refine ak (ok_iload_n (k := 2) rfl (by decide +kernel)) ?_
  refine ak (ok_iconst (n := 0) (by decide) (by decide +kernel)) ?_
  refine ak (ok_invV (r := 40) (kK_manySo hsd l) qK_manySo ck11 kd40 iK_manySo tw1404 tw45 (by decide) tw1402 (by decide +kernel)) ?_
  refine ak (ok_ireturn rfl (by decide +kernel)) ?_
  refine ak (ok_aload_n (k := 0) rfl (by decide +kernel)) ?_
  refine ak (ok_iload_n (k := 2) rfl (by decide +kernel)) ?_
  refine ak (ok_iconst (n := 1) (by decide) (by decide +kernel)) ?_
  refine ak (ok_invV (r := 40) (kK_manySo hsd l) qK_manySo ck11 kd40 iK_manySo tw1404 tw45 (by decide) tw1402 (by decide +kernel)) ?_
  refine ak (ok_ireturn rfl (by decide +kernel)) ?_
  refine ak (ok_aload_n (k := 0) rfl (by decide +kernel)) ?_
  refine ak (ok_iload_n (k := 2) rfl (by decide +kernel)) ?_
  refine ak (ok_bipush (n := 8) (by decide) (by decide +kernel)) ?_
  refine ak (ok_invV (r := 40) (kK_bond hsd l) qK_bond ck11 kd40 iK_bond tw1420 tw49 (by decide) tw1418 (by decide +kernel)) ?_
  refine ak (ok_ireturn rfl (by decide +kernel)) ?_
  exact trivial
set_option maxRecDepth 1000000 in
theorem eK_seen (x1 : Int32) (x2 : Int32) (M : Mem) : run (cK_seen) (fun _ _ _ _ => none) rtI 400 (seek (cK_seen) 0) [aR (40, 0, 0), aI x1, aI x2] [] M = mK_seen x1 x2 M := id rfl
theorem lK_seen {E : EV} {l : Launch} {p : Program} {e : Env} {s : State} {m : MethodId} {args : Array Value} {below : List Frame} {meth : Method} {c : Code} (A : AllOK E l 3 "FreeLancesModel" prog_13_method_101_code 3 (some .int) outI (cK_seen)) (C : Cx E p s m args meth c "FreeLancesModel" prog_13_method_101_code 3 (some .int)) : ∀ (x1 : Int32) (x2 : Int32) (M : Mem) (res : (Int32 × Mem)), mK_seen x1 x2 M = some res → Wm E p l e 3 s m args below meth c 3 0 [aR (40, 0, 0), aI x1, aI x2] [] M (outI res).1 (outI res).2 := by
  intro x1 x2 M res h
  refine run_at C A rfl hrtI (n := 400) ((eK_seen x1 x2 M).trans h) ?_
  intro t als st M hk; cases hk
def dK_seen {β : Type} : Den β := fun as M k => match as with
  | [.inr (.inr (.inl (al0, bl0, cl0))), .inl x1, .inl x2] => if al0 = 40 ∧ bl0 = 0 ∧ cl0 = 0 then (mK_seen x1 x2 M).bind fun q => k (aI q.1) q.2 else none
  | _ => none
theorem wK_seen {E : EV} (hsd : E.2.2.2 = 1) (l : Launch) (x1 : Int32) (x2 : Int32) (M : Mem) (q : (Int32 × Mem)) (hq : mK_seen x1 x2 M = some q) : Con E l 3 yK_seen prog_13_method_101_code 3 (some .int) [aR (40, 0, 0), aI x1, aI x2] M (outI q).1 (outI q).2 := by
  refine con_of iK_seen (Nat.le_of_ble_eq_true rfl) ?_
  intro p e s m args below meth c C
  exact lK_seen (oK_seen hsd l) C x1 x2 M _ hq
theorem kK_seen {E : EV} (hsd : E.2.2.2 = 1) (l : Launch) {β : Type} : DenOK E l 3 yK_seen prog_13_method_101_code 3 (some .int) true (dK_seen (β := β)) := by
  intro as M k res h
  unfold dK_seen at h
  split at h
  ·
    split at h
    · rename_i hc
      obtain ⟨rfl, rfl, rfl⟩ := hc
      obtain ⟨q, hq, hk⟩ := Option.bind_eq_some_iff.mp h
      exact ⟨aI q.1, q.2, hk, rfl, wK_seen hsd l _ _ M q hq⟩
    · cases h
  · cases h
theorem qK_seen {β : Type} : RecOK 40 (dK_seen (β := β)) := by
  intro as M k res h
  unfold dK_seen at h
  split at h
  ·
    split at h
    · rename_i hc
      obtain ⟨rfl, rfl, rfl⟩ := hc
      exact ⟨_, _, _, rfl⟩
    · cases h
  · cases h
/-! ===== FreeLancesModel.ahead(III)I ===== -/
abbrev yK_ahead : MethodName := ⟨"FreeLancesModel", "ahead", "(III)I"⟩
theorem iK_ahead : MI yK_ahead prog_13_method_102_code 7 (some .int) 3 := ⟨tw1718, tw108, ⟨by decide, by decide⟩, by decide +kernel, by decide, by decide⟩
def cK_ahead : List (Ent (Int32 × Mem)) := [(false, 0, 1, sLdI 1),
  (false, 1, 1, sC 0),
  (false, 2, 3, sC 200),
  (false, 5, 3, sInv 3 true dK_in),
  (false, 8, 3, sIfEq 81),
  (false, 11, 1, sLdA 0),
  (false, 12, 3, sGet 40 (fun w i M => aR (41, 0, 0))),
  (false, 15, 2, sC 6),
  (false, 17, 1, sIald 41 1502),
  (false, 18, 1, sLdI 1),
  (false, 19, 1, sBin (fun x y => x + y)),
  (false, 20, 3, sC 3000),
  (false, 23, 3, sCmpGt 81),
  (false, 26, 1, sLdI 2),
  (false, 27, 1, sC 0),
  (false, 28, 2, sC 6),
  (false, 30, 3, sInv 3 true dK_in),
  (false, 33, 3, sIfEq 81),
  (false, 36, 1, sLdI 2),
  (false, 37, 1, sC 2),
  (false, 38, 3, sCmpGe 52),
  (false, 41, 1, sLdA 0),
  (false, 42, 1, sLdI 3),
  (false, 43, 3, sInv 2 true dK_isTown),
  (false, 46, 3, sIfEq 81),
  (false, 49, 3, sGoto 77),
  (false, 52, 1, sLdI 2),
  (false, 53, 2, sC 6),
  (false, 55, 3, sCmpGe 69),
  (false, 58, 1, sLdA 0),
  (false, 59, 1, sLdI 3),
  (false, 60, 3, sInv 2 true dK_isCompany),
  (false, 63, 3, sIfEq 81),
  (false, 66, 3, sGoto 77),
  (false, 69, 1, sLdA 0),
  (false, 70, 1, sLdI 3),
  (false, 71, 3, sInv 2 true dK_isBond),
  (false, 74, 3, sIfEq 81),
  (false, 77, 1, sC 1),
  (false, 78, 3, sGoto 82),
  (true, 81, 1, sC 0),
  (false, 82, 2, sStI 4),
  (false, 84, 2, sLdI 4),
  (false, 86, 3, sIfNe 95),
  (false, 89, 1, sLdA 0),
  (false, 90, 1, sC 1),
  (false, 91, 3, sInv 2 true dK_finds),
  (false, 94, 1, sRetI),
  (false, 95, 1, sC 0),
  (false, 96, 2, sStI 5),
  (true, 98, 2, sLdI 5),
  (false, 100, 3, sC 1502),
  (false, 103, 3, sCmpGe 126),
  (false, 106, 1, sLdA 0),
  (false, 107, 3, sGet 40 (fun w i M => aR (43, 0, 0))),
  (false, 110, 2, sLdI 5),
  (false, 112, 1, sLdA 0),
  (false, 113, 3, sGet 40 (fun w i M => aR (41, 0, 0))),
  (false, 116, 2, sLdI 5),
  (false, 118, 1, sIald 41 1502),
  (false, 119, 1, sIast 43 1502),
  (false, 120, 3, sInc 5 1),
  (false, 123, 3, sGoto 98),
  (false, 126, 1, sLdA 0),
  (false, 127, 1, sLdI 1),
  (false, 128, 3, sInv 2 false dK_run),
  (false, 131, 1, sLdA 0),
  (false, 132, 1, sLdI 2),
  (false, 133, 1, sLdI 3),
  (false, 134, 3, sInv 3 true dK_seen),
  (false, 137, 2, sStI 5),
  (false, 139, 1, sC 0),
  (false, 140, 2, sStI 6),
  (true, 142, 2, sLdI 6),
  (false, 144, 3, sC 1502),
  (false, 147, 3, sCmpGe 170),
  (false, 150, 1, sLdA 0),
  (false, 151, 3, sGet 40 (fun w i M => aR (41, 0, 0))),
  (false, 154, 2, sLdI 6),
  (false, 156, 1, sLdA 0),
  (false, 157, 3, sGet 40 (fun w i M => aR (43, 0, 0))),
  (false, 160, 2, sLdI 6),
  (false, 162, 1, sIald 43 1502),
  (false, 163, 1, sIast 41 1502),
  (false, 164, 3, sInc 6 1),
  (false, 167, 3, sGoto 142),
  (false, 170, 2, sLdI 5),
  (false, 172, 1, sRetI)]
theorem oK_ahead {E : EV} (hsd : E.2.2.2 = 1) (l : Launch) : AllOK E l 5 "FreeLancesModel" prog_13_method_102_code 7 (some .int) outI (cK_ahead) := by
  refine ak (ok_iload_n (k := 1) rfl (by decide +kernel)) ?_
  refine ak (ok_iconst (n := 0) (by decide) (by decide +kernel)) ?_
  refine ak (ok_sipush (n := 200) (by decide) (by decide +kernel)) ?_
  refine ak (ok_invS (kK_in hsd l) iK_in tw1330 (by decide) tw1329 (by decide +kernel)) ?_
  refine ak (ok_if_eq (off := 73) (by decide) (by decide +kernel)) ?_
  refine ak (ok_aload_n (k := 0) rfl (by decide +kernel)) ?_
  refine ak (ok_get (k := 0) ck11 kd40 (by decide) (fun _ _ _ => rfl) (vf_40_0 hsd) tw1242 (by decide +kernel)) ?_
  refine ak (ok_bipush (n := 6) (by decide) (by decide +kernel)) ?_
  refine ak (ok_iald kd41 (by decide) (by decide +kernel)) ?_
  refine ak (ok_iload_n (k := 1) rfl (by decide +kernel)) ?_
  refine ak (ok_iadd (by decide +kernel)) ?_
  refine ak (ok_sipush (n := 3000) (by decide) (by decide +kernel)) ?_
  refine ak (ok_icmp_gt (off := 58) (by decide) (by decide +kernel)) ?_
  refine ak (ok_iload_n (k := 2) rfl (by decide +kernel)) ?_
  refine ak (ok_iconst (n := 0) (by decide) (by decide +kernel)) ?_
  refine ak (ok_bipush (n := 6) (by decide) (by decide +kernel)) ?_
  refine ak (ok_invS (kK_in hsd l) iK_in tw1330 (by decide) tw1329 (by decide +kernel)) ?_
  refine ak (ok_if_eq (off := 48) (by decide) (by decide +kernel)) ?_
  refine ak (ok_iload_n (k := 2) rfl (by decide +kernel)) ?_
  refine ak (ok_iconst (n := 2) (by decide) (by decide +kernel)) ?_
  refine ak (ok_icmp_ge (off := 14) (by decide) (by decide +kernel)) ?_
  refine ak (ok_aload_n (k := 0) rfl (by decide +kernel)) ?_
  refine ak (ok_iload_n (k := 3) rfl (by decide +kernel)) ?_
  refine ak (ok_invV (r := 40) (kK_isTown hsd l) qK_isTown ck11 kd40 iK_isTown tw1343 tw38 (by decide) tw1341 (by decide +kernel)) ?_
  refine ak (ok_if_eq (off := 35) (by decide) (by decide +kernel)) ?_
  refine ak (ok_goto (off := 28) (by decide) (by decide +kernel)) ?_
  refine ak (ok_iload_n (k := 2) rfl (by decide +kernel)) ?_
  refine ak (ok_bipush (n := 6) (by decide) (by decide +kernel)) ?_
  refine ak (ok_icmp_ge (off := 14) (by decide) (by decide +kernel)) ?_
  refine ak (ok_aload_n (k := 0) rfl (by decide +kernel)) ?_
  refine ak (ok_iload_n (k := 3) rfl (by decide +kernel)) ?_
  refine ak (ok_invV (r := 40) (kK_isCompany hsd l) qK_isCompany ck11 kd40 iK_isCompany tw1392 tw44 (by decide) tw1390 (by decide +kernel)) ?_
  refine ak (ok_if_eq (off := 18) (by decide) (by decide +kernel)) ?_
  refine ak (ok_goto (off := 11) (by decide) (by decide +kernel)) ?_
  refine ak (ok_aload_n (k := 0) rfl (by decide +kernel)) ?_
  refine ak (ok_iload_n (k := 3) rfl (by decide +kernel)) ?_
  refine ak (ok_invV (r := 40) (kK_isBond hsd l) qK_isBond ck11 kd40 iK_isBond tw1551 tw67 (by decide) tw1549 (by decide +kernel)) ?_
  refine ak (ok_if_eq (off := 7) (by decide) (by decide +kernel)) ?_
  refine ak (ok_iconst (n := 1) (by decide) (by decide +kernel)) ?_
  refine ak (ok_goto (off := 4) (by decide) (by decide +kernel)) ?_
  refine ak (ok_iconst (n := 0) (by decide) (by decide +kernel)) ?_
  refine ak (ok_istore (by decide) (by decide +kernel)) ?_
  refine ak (ok_iload (by decide +kernel)) ?_
  refine ak (ok_if_ne (off := 9) (by decide) (by decide +kernel)) ?_
  refine ak (ok_aload_n (k := 0) rfl (by decide +kernel)) ?_
  refine ak (ok_iconst (n := 1) (by decide) (by decide +kernel)) ?_
  refine ak (ok_invV (r := 40) (kK_finds hsd l) qK_finds ck11 kd40 iK_finds tw1334 tw37 (by decide) tw1332 (by decide +kernel)) ?_
  refine ak (ok_ireturn rfl (by decide +kernel)) ?_
  refine ak (ok_iconst (n := 0) (by decide) (by decide +kernel)) ?_
  refine ak (ok_istore (by decide) (by decide +kernel)) ?_
  refine ak (ok_iload (by decide +kernel)) ?_
  refine ak (ok_sipush (n := 1502) (by decide) (by decide +kernel)) ?_
  refine ak (ok_icmp_ge (off := 23) (by decide) (by decide +kernel)) ?_
  refine ak (ok_aload_n (k := 0) rfl (by decide +kernel)) ?_
  refine ak (ok_get (k := 2) ck11 kd40 (by decide) (fun _ _ _ => rfl) (vf_40_2 hsd) tw1244 (by decide +kernel)) ?_
  refine ak (ok_iload (by decide +kernel)) ?_
  refine ak (ok_aload_n (k := 0) rfl (by decide +kernel)) ?_
  refine ak (ok_get (k := 0) ck11 kd40 (by decide) (fun _ _ _ => rfl) (vf_40_0 hsd) tw1242 (by decide +kernel)) ?_
  refine ak (ok_iload (by decide +kernel)) ?_
  refine ak (ok_iald kd41 (by decide) (by decide +kernel)) ?_
  refine ak (ok_iast kd43 (by decide) (by decide) (by decide +kernel)) ?_
  refine ak (ok_iinc (n := 1) (by decide) (by decide) (by decide +kernel)) ?_
  refine ak (ok_goto (off := (-25)) (by decide) (by decide +kernel)) ?_
  refine ak (ok_aload_n (k := 0) rfl (by decide +kernel)) ?_
  refine ak (ok_iload_n (k := 1) rfl (by decide +kernel)) ?_
  refine ak (ok_invV (r := 40) (kK_run hsd l) qK_run ck11 kd40 iK_run tw1701 tw81 (by decide) tw1699 (by decide +kernel)) ?_
  refine ak (ok_aload_n (k := 0) rfl (by decide +kernel)) ?_
  refine ak (ok_iload_n (k := 2) rfl (by decide +kernel)) ?_
  refine ak (ok_iload_n (k := 3) rfl (by decide +kernel)) ?_
  refine ak (ok_invV (r := 40) (kK_seen hsd l) qK_seen ck11 kd40 iK_seen tw1721 tw85 (by decide) tw1719 (by decide +kernel)) ?_
  refine ak (ok_istore (by decide) (by decide +kernel)) ?_
  refine ak (ok_iconst (n := 0) (by decide) (by decide +kernel)) ?_
  refine ak (ok_istore (by decide) (by decide +kernel)) ?_
  refine ak (ok_iload (by decide +kernel)) ?_
  refine ak (ok_sipush (n := 1502) (by decide) (by decide +kernel)) ?_
  refine ak (ok_icmp_ge (off := 23) (by decide) (by decide +kernel)) ?_
  refine ak (ok_aload_n (k := 0) rfl (by decide +kernel)) ?_
  refine ak (ok_get (k := 0) ck11 kd40 (by decide) (fun _ _ _ => rfl) (vf_40_0 hsd) tw1242 (by decide +kernel)) ?_
  refine ak (ok_iload (by decide +kernel)) ?_
  refine ak (ok_aload_n (k := 0) rfl (by decide +kernel)) ?_
  refine ak (ok_get (k := 2) ck11 kd40 (by decide) (fun _ _ _ => rfl) (vf_40_2 hsd) tw1244 (by decide +kernel)) ?_
  refine ak (ok_iload (by decide +kernel)) ?_
  refine ak (ok_iald kd43 (by decide) (by decide +kernel)) ?_
  refine ak (ok_iast kd41 (by decide) (by decide) (by decide +kernel)) ?_
  refine ak (ok_iinc (n := 1) (by decide) (by decide) (by decide +kernel)) ?_
  refine ak (ok_goto (off := (-25)) (by decide) (by decide +kernel)) ?_
  refine ak (ok_iload (by decide +kernel)) ?_
  refine ak (ok_ireturn rfl (by decide +kernel)) ?_
  exact trivial
set_option maxRecDepth 1000000 in
theorem eK_ahead_81 (x1 : Int32) (x2 : Int32) (x3 : Int32) (M : Mem) (u4 u5 u6 : AV) : run (cK_ahead) (fun _ _ _ _ => none) rtI 400 (seek (cK_ahead) 81) [aR (40, 0, 0), aI x1, aI x2, aI x3, u4, u5, u6] [] M = mK_ahead_81b x1 x2 x3 M := id rfl
theorem lK_ahead_81 {E : EV} {l : Launch} {p : Program} {e : Env} {s : State} {m : MethodId} {args : Array Value} {below : List Frame} {meth : Method} {c : Code} (A : AllOK E l 5 "FreeLancesModel" prog_13_method_102_code 7 (some .int) outI (cK_ahead)) (C : Cx E p s m args meth c "FreeLancesModel" prog_13_method_102_code 7 (some .int)) : ∀ (x1 : Int32) (x2 : Int32) (x3 : Int32) (M : Mem) (res : (Int32 × Mem)), mK_ahead_81 x1 x2 x3 M = some res → ∀ (u4 u5 u6 : AV), Wm E p l e 5 s m args below meth c 7 81 [aR (40, 0, 0), aI x1, aI x2, aI x3, u4, u5, u6] [] M (outI res).1 (outI res).2 := by
  intro x1 x2 x3 M res h u4 u5 u6
  refine run_at C A rfl hrtI (n := 400) ((eK_ahead_81 x1 x2 x3 M u4 u5 u6).trans h) ?_
  intro t als st M hk; cases hk
def KK_ahead_142 (j142 : Int32 → Int32 → Mem → Option (Int32 × Mem)) : Jm (Int32 × Mem) := fun t als st M =>
  if t = 142 then (match als, st with
  | [.inr (.inr (.inl (al0, bl0, cl0))), _, _, _, _, .inl x5, .inl x6], [] => if al0 = 40 ∧ bl0 = 0 ∧ cl0 = 0 then j142 x5 x6 M else none
  | _, _ => none) else
  none
set_option maxRecDepth 1000000 in
theorem eK_ahead_142 (j142 : Int32 → Int32 → Mem → Option (Int32 × Mem)) (x5 : Int32) (x6 : Int32) (M : Mem) (u1 u2 u3 u4 : AV) : run (cK_ahead) (KK_ahead_142 j142) rtI 400 (seek (cK_ahead) 142) [aR (40, 0, 0), u1, u2, u3, u4, aI x5, aI x6] [] M = mK_ahead_142b j142 x5 x6 M := id rfl
theorem lK_ahead_142 {E : EV} {l : Launch} {p : Program} {e : Env} {s : State} {m : MethodId} {args : Array Value} {below : List Frame} {meth : Method} {c : Code} (A : AllOK E l 5 "FreeLancesModel" prog_13_method_102_code 7 (some .int) outI (cK_ahead)) (C : Cx E p s m args meth c "FreeLancesModel" prog_13_method_102_code 7 (some .int)) : ∀ (n : Nat), ∀ (x5 : Int32) (x6 : Int32) (M : Mem) (res : (Int32 × Mem)), mK_ahead_142 n x5 x6 M = some res → ∀ (u1 u2 u3 u4 : AV), Wm E p l e 5 s m args below meth c 7 142 [aR (40, 0, 0), u1, u2, u3, u4, aI x5, aI x6] [] M (outI res).1 (outI res).2 := by
  intro n
  induction n with
  | zero => intro _ _ M res h; cases h
  | succ n ih =>
    intro x5 x6 M res h u1 u2 u3 u4
    refine run_at C A rfl hrtI (n := 400) ((eK_ahead_142 (mK_ahead_142 n) x5 x6 M u1 u2 u3 u4).trans h) ?_
    intro t als st M hk
    unfold KK_ahead_142 at hk
    split at hk
    · rename_i ht
      subst ht
      split at hk
      · split at hk
        · rename_i hc
          obtain ⟨rfl, rfl, rfl⟩ := hc
          exact ih _ _ _ _ hk _ _ _ _
        · cases hk
      · cases hk
    cases hk
def KK_ahead_98 (j98 : Int32 → Int32 → Int32 → Int32 → Mem → Option (Int32 × Mem)) (j142 : Int32 → Int32 → Mem → Option (Int32 × Mem)) : Jm (Int32 × Mem) := fun t als st M =>
  if t = 98 then (match als, st with
  | [.inr (.inr (.inl (al0, bl0, cl0))), .inl x1, .inl x2, .inl x3, _, .inl x5, _], [] => if al0 = 40 ∧ bl0 = 0 ∧ cl0 = 0 then j98 x1 x2 x3 x5 M else none
  | _, _ => none) else
  if t = 142 then (match als, st with
  | [.inr (.inr (.inl (al0, bl0, cl0))), _, _, _, _, .inl x5, .inl x6], [] => if al0 = 40 ∧ bl0 = 0 ∧ cl0 = 0 then j142 x5 x6 M else none
  | _, _ => none) else
  none
set_option maxRecDepth 1000000 in
theorem eK_ahead_98 (j98 : Int32 → Int32 → Int32 → Int32 → Mem → Option (Int32 × Mem)) (j142 : Int32 → Int32 → Mem → Option (Int32 × Mem)) (x1 : Int32) (x2 : Int32) (x3 : Int32) (x5 : Int32) (M : Mem) (u4 u6 : AV) : run (cK_ahead) (KK_ahead_98 j98 j142) rtI 400 (seek (cK_ahead) 98) [aR (40, 0, 0), aI x1, aI x2, aI x3, u4, aI x5, u6] [] M = mK_ahead_98b j98 j142 x1 x2 x3 x5 M := id rfl
theorem lK_ahead_98 {E : EV} {l : Launch} {p : Program} {e : Env} {s : State} {m : MethodId} {args : Array Value} {below : List Frame} {meth : Method} {c : Code} (A : AllOK E l 5 "FreeLancesModel" prog_13_method_102_code 7 (some .int) outI (cK_ahead)) (C : Cx E p s m args meth c "FreeLancesModel" prog_13_method_102_code 7 (some .int)) : ∀ (n : Nat), ∀ (x1 : Int32) (x2 : Int32) (x3 : Int32) (x5 : Int32) (M : Mem) (res : (Int32 × Mem)), mK_ahead_98 n x1 x2 x3 x5 M = some res → ∀ (u4 u6 : AV), Wm E p l e 5 s m args below meth c 7 98 [aR (40, 0, 0), aI x1, aI x2, aI x3, u4, aI x5, u6] [] M (outI res).1 (outI res).2 := by
  intro n
  induction n with
  | zero => intro _ _ _ _ M res h; cases h
  | succ n ih =>
    intro x1 x2 x3 x5 M res h u4 u6
    refine run_at C A rfl hrtI (n := 400) ((eK_ahead_98 (mK_ahead_98 n) (mK_ahead_142 fuel) x1 x2 x3 x5 M u4 u6).trans h) ?_
    intro t als st M hk
    unfold KK_ahead_98 at hk
    split at hk
    · rename_i ht
      subst ht
      split at hk
      · split at hk
        · rename_i hc
          obtain ⟨rfl, rfl, rfl⟩ := hc
          exact ih _ _ _ _ _ _ hk _ _
        · cases hk
      · cases hk
    split at hk
    · rename_i ht
      subst ht
      split at hk
      · split at hk
        · rename_i hc
          obtain ⟨rfl, rfl, rfl⟩ := hc
          exact lK_ahead_142 A C _ _ _ _ _ hk _ _ _ _
        · cases hk
      · cases hk
    cases hk
def KK_ahead (j81 : Int32 → Int32 → Int32 → Mem → Option (Int32 × Mem)) (j98 : Int32 → Int32 → Int32 → Int32 → Mem → Option (Int32 × Mem)) : Jm (Int32 × Mem) := fun t als st M =>
  if t = 81 then (match als, st with
  | [.inr (.inr (.inl (al0, bl0, cl0))), .inl x1, .inl x2, .inl x3, _, _, _], [] => if al0 = 40 ∧ bl0 = 0 ∧ cl0 = 0 then j81 x1 x2 x3 M else none
  | _, _ => none) else
  if t = 98 then (match als, st with
  | [.inr (.inr (.inl (al0, bl0, cl0))), .inl x1, .inl x2, .inl x3, _, .inl x5, _], [] => if al0 = 40 ∧ bl0 = 0 ∧ cl0 = 0 then j98 x1 x2 x3 x5 M else none
  | _, _ => none) else
  none
set_option maxRecDepth 1000000 in
theorem eK_ahead (j81 : Int32 → Int32 → Int32 → Mem → Option (Int32 × Mem)) (j98 : Int32 → Int32 → Int32 → Int32 → Mem → Option (Int32 × Mem)) (x1 : Int32) (x2 : Int32) (x3 : Int32) (M : Mem) : run (cK_ahead) (KK_ahead j81 j98) rtI 400 (seek (cK_ahead) 0) [aR (40, 0, 0), aI x1, aI x2, aI x3, aU, aU, aU] [] M = mK_aheadb j81 j98 x1 x2 x3 M := id rfl
theorem lK_ahead {E : EV} {l : Launch} {p : Program} {e : Env} {s : State} {m : MethodId} {args : Array Value} {below : List Frame} {meth : Method} {c : Code} (A : AllOK E l 5 "FreeLancesModel" prog_13_method_102_code 7 (some .int) outI (cK_ahead)) (C : Cx E p s m args meth c "FreeLancesModel" prog_13_method_102_code 7 (some .int)) : ∀ (x1 : Int32) (x2 : Int32) (x3 : Int32) (M : Mem) (res : (Int32 × Mem)), mK_ahead x1 x2 x3 M = some res → Wm E p l e 5 s m args below meth c 7 0 [aR (40, 0, 0), aI x1, aI x2, aI x3, aU, aU, aU] [] M (outI res).1 (outI res).2 := by
  intro x1 x2 x3 M res h
  refine run_at C A rfl hrtI (n := 400) ((eK_ahead mK_ahead_81 (mK_ahead_98 fuel) x1 x2 x3 M).trans h) ?_
  intro t als st M hk
  unfold KK_ahead at hk
  split at hk
  · rename_i ht
    subst ht
    split at hk
    · split at hk
      · rename_i hc
        obtain ⟨rfl, rfl, rfl⟩ := hc
        exact lK_ahead_81 A C _ _ _ _ _ hk _ _ _
      · cases hk
    · cases hk
  split at hk
  · rename_i ht
    subst ht
    split at hk
    · split at hk
      · rename_i hc
        obtain ⟨rfl, rfl, rfl⟩ := hc
        exact lK_ahead_98 A C _ _ _ _ _ _ _ hk _ _
      · cases hk
    · cases hk
  cases hk
def dK_ahead {β : Type} : Den β := fun as M k => match as with
  | [.inr (.inr (.inl (al0, bl0, cl0))), .inl x1, .inl x2, .inl x3] => if al0 = 40 ∧ bl0 = 0 ∧ cl0 = 0 then (mK_ahead x1 x2 x3 M).bind fun q => k (aI q.1) q.2 else none
  | _ => none
theorem wK_ahead {E : EV} (hsd : E.2.2.2 = 1) (l : Launch) (x1 : Int32) (x2 : Int32) (x3 : Int32) (M : Mem) (q : (Int32 × Mem)) (hq : mK_ahead x1 x2 x3 M = some q) : Con E l 5 yK_ahead prog_13_method_102_code 7 (some .int) [aR (40, 0, 0), aI x1, aI x2, aI x3] M (outI q).1 (outI q).2 := by
  refine con_of iK_ahead (Nat.le_of_ble_eq_true rfl) ?_
  intro p e s m args below meth c C
  exact lK_ahead (oK_ahead hsd l) C x1 x2 x3 M _ hq
theorem kK_ahead {E : EV} (hsd : E.2.2.2 = 1) (l : Launch) {β : Type} : DenOK E l 5 yK_ahead prog_13_method_102_code 7 (some .int) true (dK_ahead (β := β)) := by
  intro as M k res h
  unfold dK_ahead at h
  split at h
  ·
    split at h
    · rename_i hc
      obtain ⟨rfl, rfl, rfl⟩ := hc
      obtain ⟨q, hq, hk⟩ := Option.bind_eq_some_iff.mp h
      exact ⟨aI q.1, q.2, hk, rfl, wK_ahead hsd l _ _ _ M q hq⟩
    · cases h
  · cases h
theorem qK_ahead {β : Type} : RecOK 40 (dK_ahead (β := β)) := by
  intro as M k res h
  unfold dK_ahead at h
  split at h
  ·
    split at h
    · rename_i hc
      obtain ⟨rfl, rfl, rfl⟩ := hc
      exact ⟨_, _, _, rfl⟩
    · cases h
  · cases h
/-! ===== FreeLancesModel.ran(I)V ===== -/
abbrev yK_ran : MethodName := ⟨"FreeLancesModel", "ran", "(I)V"⟩
theorem iK_ran : MI yK_ran prog_13_method_103_code 2 none 1 := ⟨tw1734, tw108, ⟨by decide, by decide⟩, by decide +kernel, by decide, by decide⟩
def cK_ran : List (Ent Mem) := [(false, 0, 1, sLdA 0),
  (false, 1, 3, sGet 40 (fun w i M => aI (M 40 w i 22))),
  (false, 4, 2, sC 40),
  (false, 6, 3, sCmpNe 10),
  (false, 9, 1, sRetV),
  (false, 10, 1, sLdA 0),
  (false, 11, 3, sGet 40 (fun w i M => aR (62, 0, 0))),
  (false, 14, 1, sLdA 0),
  (false, 15, 3, sGet 40 (fun w i M => aI (M 40 w i 22))),
  (false, 18, 1, sLdI 1),
  (false, 19, 1, sIast 62 40),
  (false, 20, 1, sLdA 0),
  (false, 21, 1, sDup),
  (false, 22, 3, sGet 40 (fun w i M => aI (M 40 w i 22))),
  (false, 25, 1, sC 1),
  (false, 26, 1, sBin (fun x y => x + y)),
  (false, 27, 3, sPut 40 22),
  (false, 30, 1, sRetV)]
theorem oK_ran {E : EV} (hsd : E.2.2.2 = 1) (l : Launch) : AllOK E l 1 "FreeLancesModel" prog_13_method_103_code 2 none outV (cK_ran) := by
  refine ak (ok_aload_n (k := 0) rfl (by decide +kernel)) ?_
  refine ak (ok_get (k := 22) ck11 kd40 (by decide) (fun _ _ _ => rfl) (fun _ _ _ _ _ => trivial) tw1264 (by decide +kernel)) ?_
  refine ak (ok_bipush (n := 40) (by decide) (by decide +kernel)) ?_
  refine ak (ok_icmp_ne (off := 4) (by decide) (by decide +kernel)) ?_
  refine ak (ok_return rfl (by decide +kernel)) ?_
  refine ak (ok_aload_n (k := 0) rfl (by decide +kernel)) ?_
  refine ak (ok_get (k := 21) ck11 kd40 (by decide) (fun _ _ _ => rfl) (vf_40_21 hsd) tw1263 (by decide +kernel)) ?_
  refine ak (ok_aload_n (k := 0) rfl (by decide +kernel)) ?_
  refine ak (ok_get (k := 22) ck11 kd40 (by decide) (fun _ _ _ => rfl) (fun _ _ _ _ _ => trivial) tw1264 (by decide +kernel)) ?_
  refine ak (ok_iload_n (k := 1) rfl (by decide +kernel)) ?_
  refine ak (ok_iast kd62 (by decide) (by decide) (by decide +kernel)) ?_
  refine ak (ok_aload_n (k := 0) rfl (by decide +kernel)) ?_
  refine ak (ok_dup (by decide +kernel)) ?_
  refine ak (ok_get (k := 22) ck11 kd40 (by decide) (fun _ _ _ => rfl) (fun _ _ _ _ _ => trivial) tw1264 (by decide +kernel)) ?_
  refine ak (ok_iconst (n := 1) (by decide) (by decide +kernel)) ?_
  refine ak (ok_iadd (by decide +kernel)) ?_
  refine ak (ok_put (k := 22) ck11 kd40 (by decide) (fun _ _ _ => rfl) rfl rfl (by decide) tw1264 (by decide +kernel)) ?_
  refine ak (ok_return rfl (by decide +kernel)) ?_
  exact trivial
set_option maxRecDepth 1000000 in
theorem eK_ran (x1 : Int32) (M : Mem) : run (cK_ran) (fun _ _ _ _ => none) rtV 400 (seek (cK_ran) 0) [aR (40, 0, 0), aI x1] [] M = mK_ran x1 M := id rfl
theorem lK_ran {E : EV} {l : Launch} {p : Program} {e : Env} {s : State} {m : MethodId} {args : Array Value} {below : List Frame} {meth : Method} {c : Code} (A : AllOK E l 1 "FreeLancesModel" prog_13_method_103_code 2 none outV (cK_ran)) (C : Cx E p s m args meth c "FreeLancesModel" prog_13_method_103_code 2 none) : ∀ (x1 : Int32) (M : Mem) (res : Mem), mK_ran x1 M = some res → Wm E p l e 1 s m args below meth c 2 0 [aR (40, 0, 0), aI x1] [] M (outV res).1 (outV res).2 := by
  intro x1 M res h
  refine run_at C A rfl hrtV (n := 400) ((eK_ran x1 M).trans h) ?_
  intro t als st M hk; cases hk
def dK_ran {β : Type} : Den β := fun as M k => match as with
  | [.inr (.inr (.inl (al0, bl0, cl0))), .inl x1] => if al0 = 40 ∧ bl0 = 0 ∧ cl0 = 0 then (mK_ran x1 M).bind fun q => k aU q else none
  | _ => none
theorem wK_ran {E : EV} (hsd : E.2.2.2 = 1) (l : Launch) (x1 : Int32) (M : Mem) (q : Mem) (hq : mK_ran x1 M = some q) : Con E l 1 yK_ran prog_13_method_103_code 2 none [aR (40, 0, 0), aI x1] M (outV q).1 (outV q).2 := by
  refine con_of iK_ran (Nat.le_of_ble_eq_true rfl) ?_
  intro p e s m args below meth c C
  exact lK_ran (oK_ran hsd l) C x1 M _ hq
theorem kK_ran {E : EV} (hsd : E.2.2.2 = 1) (l : Launch) {β : Type} : DenOK E l 1 yK_ran prog_13_method_103_code 2 none false (dK_ran (β := β)) := by
  intro as M k res h
  unfold dK_ran at h
  split at h
  ·
    split at h
    · rename_i hc
      obtain ⟨rfl, rfl, rfl⟩ := hc
      obtain ⟨q, hq, hk⟩ := Option.bind_eq_some_iff.mp h
      exact ⟨aU, q, hk, rfl, wK_ran hsd l _ M q hq⟩
    · cases h
  · cases h
theorem qK_ran {β : Type} : RecOK 40 (dK_ran (β := β)) := by
  intro as M k res h
  unfold dK_ran at h
  split at h
  ·
    split at h
    · rename_i hc
      obtain ⟨rfl, rfl, rfl⟩ := hc
      exact ⟨_, _, _, rfl⟩
    · cases h
  · cases h
/-! ===== FreeLancesModel.bindsBond(II)I ===== -/
abbrev yK_bindsBond : MethodName := ⟨"FreeLancesModel", "bindsBond", "(II)I"⟩
theorem iK_bindsBond : MI yK_bindsBond prog_13_method_104_code 3 (some .int) 2 := ⟨tw1738, tw108, ⟨by decide, by decide⟩, by decide +kernel, by decide, by decide⟩
def cK_bindsBond : List (Ent (Int32 × Mem)) := [(false, 0, 1, sLdA 0),
  (false, 1, 2, sC 10),
  (false, 3, 3, sInv 2 false dK_ran),
  (false, 6, 1, sLdI 2),
  (false, 7, 1, sLdI 1),
  (false, 8, 1, sBin (fun x y => x + y)),
  (false, 9, 1, sRetI)]
theorem oK_bindsBond {E : EV} (hsd : E.2.2.2 = 1) (l : Launch) : AllOK E l 2 "FreeLancesModel" prog_13_method_104_code 3 (some .int) outI (cK_bindsBond) := by
  refine ak (ok_aload_n (k := 0) rfl (by decide +kernel)) ?_
  refine ak (ok_bipush (n := 10) (by decide) (by decide +kernel)) ?_
  refine ak (ok_invV (r := 40) (kK_ran hsd l) qK_ran ck11 kd40 iK_ran tw1733 tw87 (by decide) tw1731 (by decide +kernel)) ?_
  refine ak (ok_iload_n (k := 2) rfl (by decide +kernel)) ?_
  refine ak (ok_iload_n (k := 1) rfl (by decide +kernel)) ?_
  refine ak (ok_iadd (by decide +kernel)) ?_
  refine ak (ok_ireturn rfl (by decide +kernel)) ?_
  exact trivial
set_option maxRecDepth 1000000 in
theorem eK_bindsBond (x1 : Int32) (x2 : Int32) (M : Mem) : run (cK_bindsBond) (fun _ _ _ _ => none) rtI 400 (seek (cK_bindsBond) 0) [aR (40, 0, 0), aI x1, aI x2] [] M = mK_bindsBond x1 x2 M := id rfl
theorem lK_bindsBond {E : EV} {l : Launch} {p : Program} {e : Env} {s : State} {m : MethodId} {args : Array Value} {below : List Frame} {meth : Method} {c : Code} (A : AllOK E l 2 "FreeLancesModel" prog_13_method_104_code 3 (some .int) outI (cK_bindsBond)) (C : Cx E p s m args meth c "FreeLancesModel" prog_13_method_104_code 3 (some .int)) : ∀ (x1 : Int32) (x2 : Int32) (M : Mem) (res : (Int32 × Mem)), mK_bindsBond x1 x2 M = some res → Wm E p l e 2 s m args below meth c 3 0 [aR (40, 0, 0), aI x1, aI x2] [] M (outI res).1 (outI res).2 := by
  intro x1 x2 M res h
  refine run_at C A rfl hrtI (n := 400) ((eK_bindsBond x1 x2 M).trans h) ?_
  intro t als st M hk; cases hk
def dK_bindsBond {β : Type} : Den β := fun as M k => match as with
  | [.inr (.inr (.inl (al0, bl0, cl0))), .inl x1, .inl x2] => if al0 = 40 ∧ bl0 = 0 ∧ cl0 = 0 then (mK_bindsBond x1 x2 M).bind fun q => k (aI q.1) q.2 else none
  | _ => none
theorem wK_bindsBond {E : EV} (hsd : E.2.2.2 = 1) (l : Launch) (x1 : Int32) (x2 : Int32) (M : Mem) (q : (Int32 × Mem)) (hq : mK_bindsBond x1 x2 M = some q) : Con E l 2 yK_bindsBond prog_13_method_104_code 3 (some .int) [aR (40, 0, 0), aI x1, aI x2] M (outI q).1 (outI q).2 := by
  refine con_of iK_bindsBond (Nat.le_of_ble_eq_true rfl) ?_
  intro p e s m args below meth c C
  exact lK_bindsBond (oK_bindsBond hsd l) C x1 x2 M _ hq
theorem kK_bindsBond {E : EV} (hsd : E.2.2.2 = 1) (l : Launch) {β : Type} : DenOK E l 2 yK_bindsBond prog_13_method_104_code 3 (some .int) true (dK_bindsBond (β := β)) := by
  intro as M k res h
  unfold dK_bindsBond at h
  split at h
  ·
    split at h
    · rename_i hc
      obtain ⟨rfl, rfl, rfl⟩ := hc
      obtain ⟨q, hq, hk⟩ := Option.bind_eq_some_iff.mp h
      exact ⟨aI q.1, q.2, hk, rfl, wK_bindsBond hsd l _ _ M q hq⟩
    · cases h
  · cases h
theorem qK_bindsBond {β : Type} : RecOK 40 (dK_bindsBond (β := β)) := by
  intro as M k res h
  unfold dK_bindsBond at h
  split at h
  ·
    split at h
    · rename_i hc
      obtain ⟨rfl, rfl, rfl⟩ := hc
      exact ⟨_, _, _, rfl⟩
    · cases h
  · cases h
/-! ===== FreeLancesModel.bindsOf(II)I ===== -/
abbrev yK_bindsOf : MethodName := ⟨"FreeLancesModel", "bindsOf", "(II)I"⟩
theorem iK_bindsOf : MI yK_bindsOf prog_13_method_105_code 3 (some .int) 2 := ⟨tw1730, tw108, ⟨by decide, by decide⟩, by decide +kernel, by decide, by decide⟩
def cK_bindsOf : List (Ent (Int32 × Mem)) := [(false, 0, 1, sLdA 0),
  (false, 1, 1, sLdI 1),
  (false, 2, 1, sC 0),
  (false, 3, 3, sInv 3 true dK_bond),
  (false, 6, 1, sC 2),
  (false, 7, 3, sCmpNe 25),
  (false, 10, 1, sLdA 0),
  (false, 11, 2, sC 31),
  (false, 13, 3, sInv 2 false dK_ran),
  (false, 16, 1, sLdA 0),
  (false, 17, 1, sLdI 1),
  (false, 18, 1, sLdI 2),
  (false, 19, 3, sInv 3 true dK_bindsBond),
  (false, 22, 1, sC 3),
  (false, 23, 1, sBin (fun x y => x * y)),
  (false, 24, 1, sRetI),
  (false, 25, 1, sLdA 0),
  (false, 26, 1, sLdI 1),
  (false, 27, 1, sC 0),
  (false, 28, 3, sInv 3 true dK_bond),
  (false, 31, 1, sC 4),
  (false, 32, 3, sCmpEq 42),
  (false, 35, 1, sLdA 0),
  (false, 36, 1, sLdI 1),
  (false, 37, 1, sLdI 2),
  (false, 38, 3, sInv 3 true dK_bindsBond),
  (false, 41, 1, sRetI),
  (false, 42, 1, sLdA 0),
  (false, 43, 2, sC 51),
  (false, 45, 3, sInv 2 false dK_ran),
  (false, 48, 1, sLdA 0),
  (false, 49, 1, sLdI 1),
  (false, 50, 1, sLdI 2),
  (false, 51, 1, sLdA 0),
  (false, 52, 1, sLdI 1),
  (false, 53, 1, sC 4),
  (false, 54, 3, sInv 3 true dK_bond),
  (false, 57, 1, sBin (fun x y => x + y)),
  (false, 58, 3, sInv 3 true dK_bindsBond),
  (false, 61, 1, sRetI)]
theorem oK_bindsOf {E : EV} (hsd : E.2.2.2 = 1) (l : Launch) : AllOK E l 3 "FreeLancesModel" prog_13_method_105_code 3 (some .int) outI (cK_bindsOf) := by
  refine ak (ok_aload_n (k := 0) rfl (by decide +kernel)) ?_
  refine ak (ok_iload_n (k := 1) rfl (by decide +kernel)) ?_
  refine ak (ok_iconst (n := 0) (by decide) (by decide +kernel)) ?_
  refine ak (ok_invV (r := 40) (kK_bond hsd l) qK_bond ck11 kd40 iK_bond tw1420 tw49 (by decide) tw1418 (by decide +kernel)) ?_
  refine ak (ok_iconst (n := 2) (by decide) (by decide +kernel)) ?_
  refine ak (ok_icmp_ne (off := 18) (by decide) (by decide +kernel)) ?_
  refine ak (ok_aload_n (k := 0) rfl (by decide +kernel)) ?_
  refine ak (ok_bipush (n := 31) (by decide) (by decide +kernel)) ?_
  refine ak (ok_invV (r := 40) (kK_ran hsd l) qK_ran ck11 kd40 iK_ran tw1733 tw87 (by decide) tw1731 (by decide +kernel)) ?_
  refine ak (ok_aload_n (k := 0) rfl (by decide +kernel)) ?_
  refine ak (ok_iload_n (k := 1) rfl (by decide +kernel)) ?_
  refine ak (ok_iload_n (k := 2) rfl (by decide +kernel)) ?_
  refine ak (ok_invV (r := 40) (kK_bindsBond hsd l) qK_bindsBond ck11 kd40 iK_bindsBond tw1737 tw88 (by decide) tw1735 (by decide +kernel)) ?_
  refine ak (ok_iconst (n := 3) (by decide) (by decide +kernel)) ?_
  refine ak (ok_imul (by decide +kernel)) ?_
  refine ak (ok_ireturn rfl (by decide +kernel)) ?_
  refine ak (ok_aload_n (k := 0) rfl (by decide +kernel)) ?_
  refine ak (ok_iload_n (k := 1) rfl (by decide +kernel)) ?_
  refine ak (ok_iconst (n := 0) (by decide) (by decide +kernel)) ?_
  refine ak (ok_invV (r := 40) (kK_bond hsd l) qK_bond ck11 kd40 iK_bond tw1420 tw49 (by decide) tw1418 (by decide +kernel)) ?_
  refine ak (ok_iconst (n := 4) (by decide) (by decide +kernel)) ?_
  refine ak (ok_icmp_eq (off := 10) (by decide) (by decide +kernel)) ?_
  refine ak (ok_aload_n (k := 0) rfl (by decide +kernel)) ?_
  refine ak (ok_iload_n (k := 1) rfl (by decide +kernel)) ?_
  refine ak (ok_iload_n (k := 2) rfl (by decide +kernel)) ?_
  refine ak (ok_invV (r := 40) (kK_bindsBond hsd l) qK_bindsBond ck11 kd40 iK_bindsBond tw1737 tw88 (by decide) tw1735 (by decide +kernel)) ?_
  refine ak (ok_ireturn rfl (by decide +kernel)) ?_
  refine ak (ok_aload_n (k := 0) rfl (by decide +kernel)) ?_
  refine ak (ok_bipush (n := 51) (by decide) (by decide +kernel)) ?_
  refine ak (ok_invV (r := 40) (kK_ran hsd l) qK_ran ck11 kd40 iK_ran tw1733 tw87 (by decide) tw1731 (by decide +kernel)) ?_
  refine ak (ok_aload_n (k := 0) rfl (by decide +kernel)) ?_
  refine ak (ok_iload_n (k := 1) rfl (by decide +kernel)) ?_
  refine ak (ok_iload_n (k := 2) rfl (by decide +kernel)) ?_
  refine ak (ok_aload_n (k := 0) rfl (by decide +kernel)) ?_
  refine ak (ok_iload_n (k := 1) rfl (by decide +kernel)) ?_
  refine ak (ok_iconst (n := 4) (by decide) (by decide +kernel)) ?_
  refine ak (ok_invV (r := 40) (kK_bond hsd l) qK_bond ck11 kd40 iK_bond tw1420 tw49 (by decide) tw1418 (by decide +kernel)) ?_
  refine ak (ok_iadd (by decide +kernel)) ?_
  refine ak (ok_invV (r := 40) (kK_bindsBond hsd l) qK_bindsBond ck11 kd40 iK_bindsBond tw1737 tw88 (by decide) tw1735 (by decide +kernel)) ?_
  refine ak (ok_ireturn rfl (by decide +kernel)) ?_
  exact trivial
set_option maxRecDepth 1000000 in
theorem eK_bindsOf (x1 : Int32) (x2 : Int32) (M : Mem) : run (cK_bindsOf) (fun _ _ _ _ => none) rtI 400 (seek (cK_bindsOf) 0) [aR (40, 0, 0), aI x1, aI x2] [] M = mK_bindsOf x1 x2 M := id rfl
theorem lK_bindsOf {E : EV} {l : Launch} {p : Program} {e : Env} {s : State} {m : MethodId} {args : Array Value} {below : List Frame} {meth : Method} {c : Code} (A : AllOK E l 3 "FreeLancesModel" prog_13_method_105_code 3 (some .int) outI (cK_bindsOf)) (C : Cx E p s m args meth c "FreeLancesModel" prog_13_method_105_code 3 (some .int)) : ∀ (x1 : Int32) (x2 : Int32) (M : Mem) (res : (Int32 × Mem)), mK_bindsOf x1 x2 M = some res → Wm E p l e 3 s m args below meth c 3 0 [aR (40, 0, 0), aI x1, aI x2] [] M (outI res).1 (outI res).2 := by
  intro x1 x2 M res h
  refine run_at C A rfl hrtI (n := 400) ((eK_bindsOf x1 x2 M).trans h) ?_
  intro t als st M hk; cases hk
def dK_bindsOf {β : Type} : Den β := fun as M k => match as with
  | [.inr (.inr (.inl (al0, bl0, cl0))), .inl x1, .inl x2] => if al0 = 40 ∧ bl0 = 0 ∧ cl0 = 0 then (mK_bindsOf x1 x2 M).bind fun q => k (aI q.1) q.2 else none
  | _ => none
theorem wK_bindsOf {E : EV} (hsd : E.2.2.2 = 1) (l : Launch) (x1 : Int32) (x2 : Int32) (M : Mem) (q : (Int32 × Mem)) (hq : mK_bindsOf x1 x2 M = some q) : Con E l 3 yK_bindsOf prog_13_method_105_code 3 (some .int) [aR (40, 0, 0), aI x1, aI x2] M (outI q).1 (outI q).2 := by
  refine con_of iK_bindsOf (Nat.le_of_ble_eq_true rfl) ?_
  intro p e s m args below meth c C
  exact lK_bindsOf (oK_bindsOf hsd l) C x1 x2 M _ hq
theorem kK_bindsOf {E : EV} (hsd : E.2.2.2 = 1) (l : Launch) {β : Type} : DenOK E l 3 yK_bindsOf prog_13_method_105_code 3 (some .int) true (dK_bindsOf (β := β)) := by
  intro as M k res h
  unfold dK_bindsOf at h
  split at h
  ·
    split at h
    · rename_i hc
      obtain ⟨rfl, rfl, rfl⟩ := hc
      obtain ⟨q, hq, hk⟩ := Option.bind_eq_some_iff.mp h
      exact ⟨aI q.1, q.2, hk, rfl, wK_bindsOf hsd l _ _ M q hq⟩
    · cases h
  · cases h
theorem qK_bindsOf {β : Type} : RecOK 40 (dK_bindsOf (β := β)) := by
  intro as M k res h
  unfold dK_bindsOf at h
  split at h
  ·
    split at h
    · rename_i hc
      obtain ⟨rfl, rfl, rfl⟩ := hc
      exact ⟨_, _, _, rfl⟩
    · cases h
  · cases h
/-! ===== FreeLancesModel.paysBond(II)I ===== -/
abbrev yK_paysBond : MethodName := ⟨"FreeLancesModel", "paysBond", "(II)I"⟩
theorem iK_paysBond : MI yK_paysBond prog_13_method_106_code 3 (some .int) 2 := ⟨tw1746, tw108, ⟨by decide, by decide⟩, by decide +kernel, by decide, by decide⟩
def cK_paysBond : List (Ent (Int32 × Mem)) := [(false, 0, 1, sLdA 0),
  (false, 1, 2, sC 11),
  (false, 3, 3, sInv 2 false dK_ran),
  (false, 6, 1, sLdA 0),
  (false, 7, 1, sLdI 1),
  (false, 8, 1, sLdI 2),
  (false, 9, 3, sInv 3 true dK_bindsOf),
  (false, 12, 1, sLdA 0),
  (false, 13, 1, sLdI 1),
  (false, 14, 1, sC 4),
  (false, 15, 3, sInv 3 true dK_bond),
  (false, 18, 1, sBin (fun x y => x + y)),
  (false, 19, 1, sRetI)]
theorem oK_paysBond {E : EV} (hsd : E.2.2.2 = 1) (l : Launch) : AllOK E l 4 "FreeLancesModel" prog_13_method_106_code 3 (some .int) outI (cK_paysBond) := by
  refine ak (ok_aload_n (k := 0) rfl (by decide +kernel)) ?_
  refine ak (ok_bipush (n := 11) (by decide) (by decide +kernel)) ?_
  refine ak (ok_invV (r := 40) (kK_ran hsd l) qK_ran ck11 kd40 iK_ran tw1733 tw87 (by decide) tw1731 (by decide +kernel)) ?_
  refine ak (ok_aload_n (k := 0) rfl (by decide +kernel)) ?_
  refine ak (ok_iload_n (k := 1) rfl (by decide +kernel)) ?_
  refine ak (ok_iload_n (k := 2) rfl (by decide +kernel)) ?_
  refine ak (ok_invV (r := 40) (kK_bindsOf hsd l) qK_bindsOf ck11 kd40 iK_bindsOf tw1729 tw86 (by decide) tw1727 (by decide +kernel)) ?_
  refine ak (ok_aload_n (k := 0) rfl (by decide +kernel)) ?_
  refine ak (ok_iload_n (k := 1) rfl (by decide +kernel)) ?_
  refine ak (ok_iconst (n := 4) (by decide) (by decide +kernel)) ?_
  refine ak (ok_invV (r := 40) (kK_bond hsd l) qK_bond ck11 kd40 iK_bond tw1420 tw49 (by decide) tw1418 (by decide +kernel)) ?_
  refine ak (ok_iadd (by decide +kernel)) ?_
  refine ak (ok_ireturn rfl (by decide +kernel)) ?_
  exact trivial
set_option maxRecDepth 1000000 in
theorem eK_paysBond (x1 : Int32) (x2 : Int32) (M : Mem) : run (cK_paysBond) (fun _ _ _ _ => none) rtI 400 (seek (cK_paysBond) 0) [aR (40, 0, 0), aI x1, aI x2] [] M = mK_paysBond x1 x2 M := id rfl
theorem lK_paysBond {E : EV} {l : Launch} {p : Program} {e : Env} {s : State} {m : MethodId} {args : Array Value} {below : List Frame} {meth : Method} {c : Code} (A : AllOK E l 4 "FreeLancesModel" prog_13_method_106_code 3 (some .int) outI (cK_paysBond)) (C : Cx E p s m args meth c "FreeLancesModel" prog_13_method_106_code 3 (some .int)) : ∀ (x1 : Int32) (x2 : Int32) (M : Mem) (res : (Int32 × Mem)), mK_paysBond x1 x2 M = some res → Wm E p l e 4 s m args below meth c 3 0 [aR (40, 0, 0), aI x1, aI x2] [] M (outI res).1 (outI res).2 := by
  intro x1 x2 M res h
  refine run_at C A rfl hrtI (n := 400) ((eK_paysBond x1 x2 M).trans h) ?_
  intro t als st M hk; cases hk
def dK_paysBond {β : Type} : Den β := fun as M k => match as with
  | [.inr (.inr (.inl (al0, bl0, cl0))), .inl x1, .inl x2] => if al0 = 40 ∧ bl0 = 0 ∧ cl0 = 0 then (mK_paysBond x1 x2 M).bind fun q => k (aI q.1) q.2 else none
  | _ => none
theorem wK_paysBond {E : EV} (hsd : E.2.2.2 = 1) (l : Launch) (x1 : Int32) (x2 : Int32) (M : Mem) (q : (Int32 × Mem)) (hq : mK_paysBond x1 x2 M = some q) : Con E l 4 yK_paysBond prog_13_method_106_code 3 (some .int) [aR (40, 0, 0), aI x1, aI x2] M (outI q).1 (outI q).2 := by
  refine con_of iK_paysBond (Nat.le_of_ble_eq_true rfl) ?_
  intro p e s m args below meth c C
  exact lK_paysBond (oK_paysBond hsd l) C x1 x2 M _ hq
theorem kK_paysBond {E : EV} (hsd : E.2.2.2 = 1) (l : Launch) {β : Type} : DenOK E l 4 yK_paysBond prog_13_method_106_code 3 (some .int) true (dK_paysBond (β := β)) := by
  intro as M k res h
  unfold dK_paysBond at h
  split at h
  ·
    split at h
    · rename_i hc
      obtain ⟨rfl, rfl, rfl⟩ := hc
      obtain ⟨q, hq, hk⟩ := Option.bind_eq_some_iff.mp h
      exact ⟨aI q.1, q.2, hk, rfl, wK_paysBond hsd l _ _ M q hq⟩
    · cases h
  · cases h
theorem qK_paysBond {β : Type} : RecOK 40 (dK_paysBond (β := β)) := by
  intro as M k res h
  unfold dK_paysBond at h
  split at h
  ·
    split at h
    · rename_i hc
      obtain ⟨rfl, rfl, rfl⟩ := hc
      exact ⟨_, _, _, rfl⟩
    · cases h
  · cases h
/-! ===== FreeLancesModel.paysOf(II)I ===== -/
abbrev yK_paysOf : MethodName := ⟨"FreeLancesModel", "paysOf", "(II)I"⟩
theorem iK_paysOf : MI yK_paysOf prog_13_method_107_code 3 (some .int) 2 := ⟨tw1742, tw108, ⟨by decide, by decide⟩, by decide +kernel, by decide, by decide⟩
def cK_paysOf : List (Ent (Int32 × Mem)) := [(false, 0, 1, sLdA 0),
  (false, 1, 1, sLdI 1),
  (false, 2, 3, sInv 2 true dK_isContract),
  (false, 5, 3, sIfEq 23),
  (false, 8, 1, sLdA 0),
  (false, 9, 2, sC 20),
  (false, 11, 3, sInv 2 false dK_ran),
  (false, 14, 1, sLdA 0),
  (false, 15, 1, sLdI 1),
  (false, 16, 1, sLdI 2),
  (false, 17, 3, sInv 3 true dK_paysBond),
  (false, 20, 1, sC 2),
  (false, 21, 1, sBin (fun x y => x * y)),
  (false, 22, 1, sRetI),
  (false, 23, 1, sLdA 0),
  (false, 24, 1, sLdI 1),
  (false, 25, 1, sC 0),
  (false, 26, 3, sInv 3 true dK_bond),
  (false, 29, 1, sC 3),
  (false, 30, 3, sCmpEq 40),
  (false, 33, 1, sLdA 0),
  (false, 34, 1, sLdI 1),
  (false, 35, 1, sLdI 2),
  (false, 36, 3, sInv 3 true dK_paysBond),
  (false, 39, 1, sRetI),
  (false, 40, 1, sLdA 0),
  (false, 41, 2, sC 40),
  (false, 43, 3, sInv 2 false dK_ran),
  (false, 46, 1, sLdI 2),
  (false, 47, 1, sLdA 0),
  (false, 48, 1, sLdI 1),
  (false, 49, 1, sLdI 2),
  (false, 50, 3, sInv 3 true dK_paysBond),
  (false, 53, 1, sBin (fun x y => x - y)),
  (false, 54, 1, sRetI)]
theorem oK_paysOf {E : EV} (hsd : E.2.2.2 = 1) (l : Launch) : AllOK E l 5 "FreeLancesModel" prog_13_method_107_code 3 (some .int) outI (cK_paysOf) := by
  refine ak (ok_aload_n (k := 0) rfl (by decide +kernel)) ?_
  refine ak (ok_iload_n (k := 1) rfl (by decide +kernel)) ?_
  refine ak (ok_invV (r := 40) (kK_isContract hsd l) qK_isContract ck11 kd40 iK_isContract tw1416 tw48 (by decide) tw1414 (by decide +kernel)) ?_
  refine ak (ok_if_eq (off := 18) (by decide) (by decide +kernel)) ?_
  refine ak (ok_aload_n (k := 0) rfl (by decide +kernel)) ?_
  refine ak (ok_bipush (n := 20) (by decide) (by decide +kernel)) ?_
  refine ak (ok_invV (r := 40) (kK_ran hsd l) qK_ran ck11 kd40 iK_ran tw1733 tw87 (by decide) tw1731 (by decide +kernel)) ?_
  refine ak (ok_aload_n (k := 0) rfl (by decide +kernel)) ?_
  refine ak (ok_iload_n (k := 1) rfl (by decide +kernel)) ?_
  refine ak (ok_iload_n (k := 2) rfl (by decide +kernel)) ?_
  refine ak (ok_invV (r := 40) (kK_paysBond hsd l) qK_paysBond ck11 kd40 iK_paysBond tw1745 tw90 (by decide) tw1743 (by decide +kernel)) ?_
  refine ak (ok_iconst (n := 2) (by decide) (by decide +kernel)) ?_
  refine ak (ok_imul (by decide +kernel)) ?_
  refine ak (ok_ireturn rfl (by decide +kernel)) ?_
  refine ak (ok_aload_n (k := 0) rfl (by decide +kernel)) ?_
  refine ak (ok_iload_n (k := 1) rfl (by decide +kernel)) ?_
  refine ak (ok_iconst (n := 0) (by decide) (by decide +kernel)) ?_
  refine ak (ok_invV (r := 40) (kK_bond hsd l) qK_bond ck11 kd40 iK_bond tw1420 tw49 (by decide) tw1418 (by decide +kernel)) ?_
  refine ak (ok_iconst (n := 3) (by decide) (by decide +kernel)) ?_
  refine ak (ok_icmp_eq (off := 10) (by decide) (by decide +kernel)) ?_
  refine ak (ok_aload_n (k := 0) rfl (by decide +kernel)) ?_
  refine ak (ok_iload_n (k := 1) rfl (by decide +kernel)) ?_
  refine ak (ok_iload_n (k := 2) rfl (by decide +kernel)) ?_
  refine ak (ok_invV (r := 40) (kK_paysBond hsd l) qK_paysBond ck11 kd40 iK_paysBond tw1745 tw90 (by decide) tw1743 (by decide +kernel)) ?_
  refine ak (ok_ireturn rfl (by decide +kernel)) ?_
  refine ak (ok_aload_n (k := 0) rfl (by decide +kernel)) ?_
  refine ak (ok_bipush (n := 40) (by decide) (by decide +kernel)) ?_
  refine ak (ok_invV (r := 40) (kK_ran hsd l) qK_ran ck11 kd40 iK_ran tw1733 tw87 (by decide) tw1731 (by decide +kernel)) ?_
  refine ak (ok_iload_n (k := 2) rfl (by decide +kernel)) ?_
  refine ak (ok_aload_n (k := 0) rfl (by decide +kernel)) ?_
  refine ak (ok_iload_n (k := 1) rfl (by decide +kernel)) ?_
  refine ak (ok_iload_n (k := 2) rfl (by decide +kernel)) ?_
  refine ak (ok_invV (r := 40) (kK_paysBond hsd l) qK_paysBond ck11 kd40 iK_paysBond tw1745 tw90 (by decide) tw1743 (by decide +kernel)) ?_
  refine ak (ok_isub (by decide +kernel)) ?_
  refine ak (ok_ireturn rfl (by decide +kernel)) ?_
  exact trivial
set_option maxRecDepth 1000000 in
theorem eK_paysOf (x1 : Int32) (x2 : Int32) (M : Mem) : run (cK_paysOf) (fun _ _ _ _ => none) rtI 400 (seek (cK_paysOf) 0) [aR (40, 0, 0), aI x1, aI x2] [] M = mK_paysOf x1 x2 M := id rfl
theorem lK_paysOf {E : EV} {l : Launch} {p : Program} {e : Env} {s : State} {m : MethodId} {args : Array Value} {below : List Frame} {meth : Method} {c : Code} (A : AllOK E l 5 "FreeLancesModel" prog_13_method_107_code 3 (some .int) outI (cK_paysOf)) (C : Cx E p s m args meth c "FreeLancesModel" prog_13_method_107_code 3 (some .int)) : ∀ (x1 : Int32) (x2 : Int32) (M : Mem) (res : (Int32 × Mem)), mK_paysOf x1 x2 M = some res → Wm E p l e 5 s m args below meth c 3 0 [aR (40, 0, 0), aI x1, aI x2] [] M (outI res).1 (outI res).2 := by
  intro x1 x2 M res h
  refine run_at C A rfl hrtI (n := 400) ((eK_paysOf x1 x2 M).trans h) ?_
  intro t als st M hk; cases hk
def dK_paysOf {β : Type} : Den β := fun as M k => match as with
  | [.inr (.inr (.inl (al0, bl0, cl0))), .inl x1, .inl x2] => if al0 = 40 ∧ bl0 = 0 ∧ cl0 = 0 then (mK_paysOf x1 x2 M).bind fun q => k (aI q.1) q.2 else none
  | _ => none
theorem wK_paysOf {E : EV} (hsd : E.2.2.2 = 1) (l : Launch) (x1 : Int32) (x2 : Int32) (M : Mem) (q : (Int32 × Mem)) (hq : mK_paysOf x1 x2 M = some q) : Con E l 5 yK_paysOf prog_13_method_107_code 3 (some .int) [aR (40, 0, 0), aI x1, aI x2] M (outI q).1 (outI q).2 := by
  refine con_of iK_paysOf (Nat.le_of_ble_eq_true rfl) ?_
  intro p e s m args below meth c C
  exact lK_paysOf (oK_paysOf hsd l) C x1 x2 M _ hq
theorem kK_paysOf {E : EV} (hsd : E.2.2.2 = 1) (l : Launch) {β : Type} : DenOK E l 5 yK_paysOf prog_13_method_107_code 3 (some .int) true (dK_paysOf (β := β)) := by
  intro as M k res h
  unfold dK_paysOf at h
  split at h
  ·
    split at h
    · rename_i hc
      obtain ⟨rfl, rfl, rfl⟩ := hc
      obtain ⟨q, hq, hk⟩ := Option.bind_eq_some_iff.mp h
      exact ⟨aI q.1, q.2, hk, rfl, wK_paysOf hsd l _ _ M q hq⟩
    · cases h
  · cases h
theorem qK_paysOf {β : Type} : RecOK 40 (dK_paysOf (β := β)) := by
  intro as M k res h
  unfold dK_paysOf at h
  split at h
  ·
    split at h
    · rename_i hc
      obtain ⟨rfl, rfl, rfl⟩ := hc
      exact ⟨_, _, _, rfl⟩
    · cases h
  · cases h
/-! ===== FreeLancesModel.endsBond(II)I ===== -/
abbrev yK_endsBond : MethodName := ⟨"FreeLancesModel", "endsBond", "(II)I"⟩
theorem iK_endsBond : MI yK_endsBond prog_13_method_108_code 3 (some .int) 2 := ⟨tw1758, tw108, ⟨by decide, by decide⟩, by decide +kernel, by decide, by decide⟩
def cK_endsBond : List (Ent (Int32 × Mem)) := [(false, 0, 1, sLdA 0),
  (false, 1, 2, sC 12),
  (false, 3, 3, sInv 2 false dK_ran),
  (false, 6, 1, sLdI 2),
  (false, 7, 1, sC 2),
  (false, 8, 1, sBin (fun x y => x * y)),
  (false, 9, 1, sLdI 1),
  (false, 10, 1, sBin (fun x y => x - y)),
  (false, 11, 1, sRetI)]
theorem oK_endsBond {E : EV} (hsd : E.2.2.2 = 1) (l : Launch) : AllOK E l 2 "FreeLancesModel" prog_13_method_108_code 3 (some .int) outI (cK_endsBond) := by
  refine ak (ok_aload_n (k := 0) rfl (by decide +kernel)) ?_
  refine ak (ok_bipush (n := 12) (by decide) (by decide +kernel)) ?_
  refine ak (ok_invV (r := 40) (kK_ran hsd l) qK_ran ck11 kd40 iK_ran tw1733 tw87 (by decide) tw1731 (by decide +kernel)) ?_
  refine ak (ok_iload_n (k := 2) rfl (by decide +kernel)) ?_
  refine ak (ok_iconst (n := 2) (by decide) (by decide +kernel)) ?_
  refine ak (ok_imul (by decide +kernel)) ?_
  refine ak (ok_iload_n (k := 1) rfl (by decide +kernel)) ?_
  refine ak (ok_isub (by decide +kernel)) ?_
  refine ak (ok_ireturn rfl (by decide +kernel)) ?_
  exact trivial
set_option maxRecDepth 1000000 in
theorem eK_endsBond (x1 : Int32) (x2 : Int32) (M : Mem) : run (cK_endsBond) (fun _ _ _ _ => none) rtI 400 (seek (cK_endsBond) 0) [aR (40, 0, 0), aI x1, aI x2] [] M = mK_endsBond x1 x2 M := id rfl
theorem lK_endsBond {E : EV} {l : Launch} {p : Program} {e : Env} {s : State} {m : MethodId} {args : Array Value} {below : List Frame} {meth : Method} {c : Code} (A : AllOK E l 2 "FreeLancesModel" prog_13_method_108_code 3 (some .int) outI (cK_endsBond)) (C : Cx E p s m args meth c "FreeLancesModel" prog_13_method_108_code 3 (some .int)) : ∀ (x1 : Int32) (x2 : Int32) (M : Mem) (res : (Int32 × Mem)), mK_endsBond x1 x2 M = some res → Wm E p l e 2 s m args below meth c 3 0 [aR (40, 0, 0), aI x1, aI x2] [] M (outI res).1 (outI res).2 := by
  intro x1 x2 M res h
  refine run_at C A rfl hrtI (n := 400) ((eK_endsBond x1 x2 M).trans h) ?_
  intro t als st M hk; cases hk
def dK_endsBond {β : Type} : Den β := fun as M k => match as with
  | [.inr (.inr (.inl (al0, bl0, cl0))), .inl x1, .inl x2] => if al0 = 40 ∧ bl0 = 0 ∧ cl0 = 0 then (mK_endsBond x1 x2 M).bind fun q => k (aI q.1) q.2 else none
  | _ => none
theorem wK_endsBond {E : EV} (hsd : E.2.2.2 = 1) (l : Launch) (x1 : Int32) (x2 : Int32) (M : Mem) (q : (Int32 × Mem)) (hq : mK_endsBond x1 x2 M = some q) : Con E l 2 yK_endsBond prog_13_method_108_code 3 (some .int) [aR (40, 0, 0), aI x1, aI x2] M (outI q).1 (outI q).2 := by
  refine con_of iK_endsBond (Nat.le_of_ble_eq_true rfl) ?_
  intro p e s m args below meth c C
  exact lK_endsBond (oK_endsBond hsd l) C x1 x2 M _ hq
theorem kK_endsBond {E : EV} (hsd : E.2.2.2 = 1) (l : Launch) {β : Type} : DenOK E l 2 yK_endsBond prog_13_method_108_code 3 (some .int) true (dK_endsBond (β := β)) := by
  intro as M k res h
  unfold dK_endsBond at h
  split at h
  ·
    split at h
    · rename_i hc
      obtain ⟨rfl, rfl, rfl⟩ := hc
      obtain ⟨q, hq, hk⟩ := Option.bind_eq_some_iff.mp h
      exact ⟨aI q.1, q.2, hk, rfl, wK_endsBond hsd l _ _ M q hq⟩
    · cases h
  · cases h
theorem qK_endsBond {β : Type} : RecOK 40 (dK_endsBond (β := β)) := by
  intro as M k res h
  unfold dK_endsBond at h
  split at h
  ·
    split at h
    · rename_i hc
      obtain ⟨rfl, rfl, rfl⟩ := hc
      exact ⟨_, _, _, rfl⟩
    · cases h
  · cases h
/-! ===== FreeLancesModel.endsContract(II)I ===== -/
abbrev yK_endsContract : MethodName := ⟨"FreeLancesModel", "endsContract", "(II)I"⟩
theorem iK_endsContract : MI yK_endsContract prog_13_method_109_code 3 (some .int) 2 := ⟨tw1754, tw108, ⟨by decide, by decide⟩, by decide +kernel, by decide, by decide⟩
def cK_endsContract : List (Ent (Int32 × Mem)) := [(false, 0, 1, sLdA 0),
  (false, 1, 2, sC 21),
  (false, 3, 3, sInv 2 false dK_ran),
  (false, 6, 1, sLdA 0),
  (false, 7, 1, sLdI 1),
  (false, 8, 1, sLdI 2),
  (false, 9, 1, sC 1),
  (false, 10, 1, sBin (fun x y => x - y)),
  (false, 11, 3, sInv 3 true dK_endsBond),
  (false, 14, 1, sRetI)]
theorem oK_endsContract {E : EV} (hsd : E.2.2.2 = 1) (l : Launch) : AllOK E l 3 "FreeLancesModel" prog_13_method_109_code 3 (some .int) outI (cK_endsContract) := by
  refine ak (ok_aload_n (k := 0) rfl (by decide +kernel)) ?_
  refine ak (ok_bipush (n := 21) (by decide) (by decide +kernel)) ?_
  refine ak (ok_invV (r := 40) (kK_ran hsd l) qK_ran ck11 kd40 iK_ran tw1733 tw87 (by decide) tw1731 (by decide +kernel)) ?_
  refine ak (ok_aload_n (k := 0) rfl (by decide +kernel)) ?_
  refine ak (ok_iload_n (k := 1) rfl (by decide +kernel)) ?_
  refine ak (ok_iload_n (k := 2) rfl (by decide +kernel)) ?_
  refine ak (ok_iconst (n := 1) (by decide) (by decide +kernel)) ?_
  refine ak (ok_isub (by decide +kernel)) ?_
  refine ak (ok_invV (r := 40) (kK_endsBond hsd l) qK_endsBond ck11 kd40 iK_endsBond tw1757 tw93 (by decide) tw1755 (by decide +kernel)) ?_
  refine ak (ok_ireturn rfl (by decide +kernel)) ?_
  exact trivial
set_option maxRecDepth 1000000 in
theorem eK_endsContract (x1 : Int32) (x2 : Int32) (M : Mem) : run (cK_endsContract) (fun _ _ _ _ => none) rtI 400 (seek (cK_endsContract) 0) [aR (40, 0, 0), aI x1, aI x2] [] M = mK_endsContract x1 x2 M := id rfl
theorem lK_endsContract {E : EV} {l : Launch} {p : Program} {e : Env} {s : State} {m : MethodId} {args : Array Value} {below : List Frame} {meth : Method} {c : Code} (A : AllOK E l 3 "FreeLancesModel" prog_13_method_109_code 3 (some .int) outI (cK_endsContract)) (C : Cx E p s m args meth c "FreeLancesModel" prog_13_method_109_code 3 (some .int)) : ∀ (x1 : Int32) (x2 : Int32) (M : Mem) (res : (Int32 × Mem)), mK_endsContract x1 x2 M = some res → Wm E p l e 3 s m args below meth c 3 0 [aR (40, 0, 0), aI x1, aI x2] [] M (outI res).1 (outI res).2 := by
  intro x1 x2 M res h
  refine run_at C A rfl hrtI (n := 400) ((eK_endsContract x1 x2 M).trans h) ?_
  intro t als st M hk; cases hk
def dK_endsContract {β : Type} : Den β := fun as M k => match as with
  | [.inr (.inr (.inl (al0, bl0, cl0))), .inl x1, .inl x2] => if al0 = 40 ∧ bl0 = 0 ∧ cl0 = 0 then (mK_endsContract x1 x2 M).bind fun q => k (aI q.1) q.2 else none
  | _ => none
theorem wK_endsContract {E : EV} (hsd : E.2.2.2 = 1) (l : Launch) (x1 : Int32) (x2 : Int32) (M : Mem) (q : (Int32 × Mem)) (hq : mK_endsContract x1 x2 M = some q) : Con E l 3 yK_endsContract prog_13_method_109_code 3 (some .int) [aR (40, 0, 0), aI x1, aI x2] M (outI q).1 (outI q).2 := by
  refine con_of iK_endsContract (Nat.le_of_ble_eq_true rfl) ?_
  intro p e s m args below meth c C
  exact lK_endsContract (oK_endsContract hsd l) C x1 x2 M _ hq
theorem kK_endsContract {E : EV} (hsd : E.2.2.2 = 1) (l : Launch) {β : Type} : DenOK E l 3 yK_endsContract prog_13_method_109_code 3 (some .int) true (dK_endsContract (β := β)) := by
  intro as M k res h
  unfold dK_endsContract at h
  split at h
  ·
    split at h
    · rename_i hc
      obtain ⟨rfl, rfl, rfl⟩ := hc
      obtain ⟨q, hq, hk⟩ := Option.bind_eq_some_iff.mp h
      exact ⟨aI q.1, q.2, hk, rfl, wK_endsContract hsd l _ _ M q hq⟩
    · cases h
  · cases h
theorem qK_endsContract {β : Type} : RecOK 40 (dK_endsContract (β := β)) := by
  intro as M k res h
  unfold dK_endsContract at h
  split at h
  ·
    split at h
    · rename_i hc
      obtain ⟨rfl, rfl, rfl⟩ := hc
      exact ⟨_, _, _, rfl⟩
    · cases h
  · cases h
/-! ===== FreeLancesModel.endsOf(II)I ===== -/
abbrev yK_endsOf : MethodName := ⟨"FreeLancesModel", "endsOf", "(II)I"⟩
theorem iK_endsOf : MI yK_endsOf prog_13_method_110_code 5 (some .int) 2 := ⟨tw1750, tw108, ⟨by decide, by decide⟩, by decide +kernel, by decide, by decide⟩
def cK_endsOf : List (Ent (Int32 × Mem)) := [(false, 0, 1, sLdA 0),
  (false, 1, 1, sLdI 1),
  (false, 2, 1, sC 0),
  (false, 3, 3, sInv 3 true dK_bond),
  (false, 6, 34, sSw 93 [(1, 40), (2, 47), (3, 93), (4, 93), (5, 69)]),
  (false, 40, 1, sLdA 0),
  (false, 41, 1, sLdI 1),
  (false, 42, 1, sLdI 2),
  (false, 43, 3, sInv 3 true dK_endsContract),
  (false, 46, 1, sRetI),
  (false, 47, 1, sLdA 0),
  (false, 48, 2, sC 30),
  (false, 50, 3, sInv 2 false dK_ran),
  (false, 53, 1, sLdA 0),
  (false, 54, 1, sLdI 1),
  (false, 55, 1, sLdI 2),
  (false, 56, 3, sInv 3 true dK_endsContract),
  (false, 59, 1, sStI 3),
  (false, 60, 1, sLdI 3),
  (false, 61, 1, sLdA 0),
  (false, 62, 1, sLdI 1),
  (false, 63, 1, sLdI 2),
  (false, 64, 3, sInv 3 true dK_bindsOf),
  (false, 67, 1, sBin (fun x y => x + y)),
  (false, 68, 1, sRetI),
  (false, 69, 1, sLdA 0),
  (false, 70, 2, sC 60),
  (false, 72, 3, sInv 2 false dK_ran),
  (false, 75, 1, sLdA 0),
  (false, 76, 1, sLdI 1),
  (false, 77, 1, sLdI 2),
  (false, 78, 3, sInv 3 true dK_paysOf),
  (false, 81, 2, sStI 4),
  (false, 83, 2, sLdI 4),
  (false, 85, 1, sLdA 0),
  (false, 86, 1, sLdI 1),
  (false, 87, 1, sLdI 2),
  (false, 88, 3, sInv 3 true dK_endsBond),
  (false, 91, 1, sBin (fun x y => x - y)),
  (false, 92, 1, sRetI),
  (false, 93, 1, sLdA 0),
  (false, 94, 1, sLdI 1),
  (false, 95, 1, sLdI 2),
  (false, 96, 3, sInv 3 true dK_endsBond),
  (false, 99, 1, sRetI)]
theorem oK_endsOf {E : EV} (hsd : E.2.2.2 = 1) (l : Launch) : AllOK E l 6 "FreeLancesModel" prog_13_method_110_code 5 (some .int) outI (cK_endsOf) := by
  refine ak (ok_aload_n (k := 0) rfl (by decide +kernel)) ?_
  refine ak (ok_iload_n (k := 1) rfl (by decide +kernel)) ?_
  refine ak (ok_iconst (n := 0) (by decide) (by decide +kernel)) ?_
  refine ak (ok_invV (r := 40) (kK_bond hsd l) qK_bond ck11 kd40 iK_bond tw1420 tw49 (by decide) tw1418 (by decide +kernel)) ?_
  refine ak (ok_table (df := 87) (lo := 1) (hi := 5) (offs := #[34, 41, 87, 87, 63]) (by decide) (by decide) (by decide) (by decide +kernel)) ?_
  refine ak (ok_aload_n (k := 0) rfl (by decide +kernel)) ?_
  refine ak (ok_iload_n (k := 1) rfl (by decide +kernel)) ?_
  refine ak (ok_iload_n (k := 2) rfl (by decide +kernel)) ?_
  refine ak (ok_invV (r := 40) (kK_endsContract hsd l) qK_endsContract ck11 kd40 iK_endsContract tw1753 tw92 (by decide) tw1751 (by decide +kernel)) ?_
  refine ak (ok_ireturn rfl (by decide +kernel)) ?_
  refine ak (ok_aload_n (k := 0) rfl (by decide +kernel)) ?_
  refine ak (ok_bipush (n := 30) (by decide) (by decide +kernel)) ?_
  refine ak (ok_invV (r := 40) (kK_ran hsd l) qK_ran ck11 kd40 iK_ran tw1733 tw87 (by decide) tw1731 (by decide +kernel)) ?_
  refine ak (ok_aload_n (k := 0) rfl (by decide +kernel)) ?_
  refine ak (ok_iload_n (k := 1) rfl (by decide +kernel)) ?_
  refine ak (ok_iload_n (k := 2) rfl (by decide +kernel)) ?_
  refine ak (ok_invV (r := 40) (kK_endsContract hsd l) qK_endsContract ck11 kd40 iK_endsContract tw1753 tw92 (by decide) tw1751 (by decide +kernel)) ?_
  refine ak (ok_istore_n (k := 3) rfl (by decide) (by decide +kernel)) ?_
  refine ak (ok_iload_n (k := 3) rfl (by decide +kernel)) ?_
  refine ak (ok_aload_n (k := 0) rfl (by decide +kernel)) ?_
  refine ak (ok_iload_n (k := 1) rfl (by decide +kernel)) ?_
  refine ak (ok_iload_n (k := 2) rfl (by decide +kernel)) ?_
  refine ak (ok_invV (r := 40) (kK_bindsOf hsd l) qK_bindsOf ck11 kd40 iK_bindsOf tw1729 tw86 (by decide) tw1727 (by decide +kernel)) ?_
  refine ak (ok_iadd (by decide +kernel)) ?_
  refine ak (ok_ireturn rfl (by decide +kernel)) ?_
  refine ak (ok_aload_n (k := 0) rfl (by decide +kernel)) ?_
  refine ak (ok_bipush (n := 60) (by decide) (by decide +kernel)) ?_
  refine ak (ok_invV (r := 40) (kK_ran hsd l) qK_ran ck11 kd40 iK_ran tw1733 tw87 (by decide) tw1731 (by decide +kernel)) ?_
  refine ak (ok_aload_n (k := 0) rfl (by decide +kernel)) ?_
  refine ak (ok_iload_n (k := 1) rfl (by decide +kernel)) ?_
  refine ak (ok_iload_n (k := 2) rfl (by decide +kernel)) ?_
  refine ak (ok_invV (r := 40) (kK_paysOf hsd l) qK_paysOf ck11 kd40 iK_paysOf tw1741 tw89 (by decide) tw1739 (by decide +kernel)) ?_
  refine ak (ok_istore (by decide) (by decide +kernel)) ?_
  refine ak (ok_iload (by decide +kernel)) ?_
  refine ak (ok_aload_n (k := 0) rfl (by decide +kernel)) ?_
  refine ak (ok_iload_n (k := 1) rfl (by decide +kernel)) ?_
  refine ak (ok_iload_n (k := 2) rfl (by decide +kernel)) ?_
  refine ak (ok_invV (r := 40) (kK_endsBond hsd l) qK_endsBond ck11 kd40 iK_endsBond tw1757 tw93 (by decide) tw1755 (by decide +kernel)) ?_
  refine ak (ok_isub (by decide +kernel)) ?_
  refine ak (ok_ireturn rfl (by decide +kernel)) ?_
  refine ak (ok_aload_n (k := 0) rfl (by decide +kernel)) ?_
  refine ak (ok_iload_n (k := 1) rfl (by decide +kernel)) ?_
  refine ak (ok_iload_n (k := 2) rfl (by decide +kernel)) ?_
  refine ak (ok_invV (r := 40) (kK_endsBond hsd l) qK_endsBond ck11 kd40 iK_endsBond tw1757 tw93 (by decide) tw1755 (by decide +kernel)) ?_
  refine ak (ok_ireturn rfl (by decide +kernel)) ?_
  exact trivial
set_option maxRecDepth 1000000 in
theorem eK_endsOf (x1 : Int32) (x2 : Int32) (M : Mem) : run (cK_endsOf) (fun _ _ _ _ => none) rtI 400 (seek (cK_endsOf) 0) [aR (40, 0, 0), aI x1, aI x2, aU, aU] [] M = mK_endsOf x1 x2 M := id rfl
theorem lK_endsOf {E : EV} {l : Launch} {p : Program} {e : Env} {s : State} {m : MethodId} {args : Array Value} {below : List Frame} {meth : Method} {c : Code} (A : AllOK E l 6 "FreeLancesModel" prog_13_method_110_code 5 (some .int) outI (cK_endsOf)) (C : Cx E p s m args meth c "FreeLancesModel" prog_13_method_110_code 5 (some .int)) : ∀ (x1 : Int32) (x2 : Int32) (M : Mem) (res : (Int32 × Mem)), mK_endsOf x1 x2 M = some res → Wm E p l e 6 s m args below meth c 5 0 [aR (40, 0, 0), aI x1, aI x2, aU, aU] [] M (outI res).1 (outI res).2 := by
  intro x1 x2 M res h
  refine run_at C A rfl hrtI (n := 400) ((eK_endsOf x1 x2 M).trans h) ?_
  intro t als st M hk; cases hk
def dK_endsOf {β : Type} : Den β := fun as M k => match as with
  | [.inr (.inr (.inl (al0, bl0, cl0))), .inl x1, .inl x2] => if al0 = 40 ∧ bl0 = 0 ∧ cl0 = 0 then (mK_endsOf x1 x2 M).bind fun q => k (aI q.1) q.2 else none
  | _ => none
theorem wK_endsOf {E : EV} (hsd : E.2.2.2 = 1) (l : Launch) (x1 : Int32) (x2 : Int32) (M : Mem) (q : (Int32 × Mem)) (hq : mK_endsOf x1 x2 M = some q) : Con E l 6 yK_endsOf prog_13_method_110_code 5 (some .int) [aR (40, 0, 0), aI x1, aI x2] M (outI q).1 (outI q).2 := by
  refine con_of iK_endsOf (Nat.le_of_ble_eq_true rfl) ?_
  intro p e s m args below meth c C
  exact lK_endsOf (oK_endsOf hsd l) C x1 x2 M _ hq
theorem kK_endsOf {E : EV} (hsd : E.2.2.2 = 1) (l : Launch) {β : Type} : DenOK E l 6 yK_endsOf prog_13_method_110_code 5 (some .int) true (dK_endsOf (β := β)) := by
  intro as M k res h
  unfold dK_endsOf at h
  split at h
  ·
    split at h
    · rename_i hc
      obtain ⟨rfl, rfl, rfl⟩ := hc
      obtain ⟨q, hq, hk⟩ := Option.bind_eq_some_iff.mp h
      exact ⟨aI q.1, q.2, hk, rfl, wK_endsOf hsd l _ _ M q hq⟩
    · cases h
  · cases h
theorem qK_endsOf {β : Type} : RecOK 40 (dK_endsOf (β := β)) := by
  intro as M k res h
  unfold dK_endsOf at h
  split at h
  ·
    split at h
    · rename_i hc
      obtain ⟨rfl, rfl, rfl⟩ := hc
      exact ⟨_, _, _, rfl⟩
    · cases h
  · cases h
/-! ===== FreeLancesModel.tellsBond(II)I ===== -/
abbrev yK_tellsBond : MethodName := ⟨"FreeLancesModel", "tellsBond", "(II)I"⟩
theorem iK_tellsBond : MI yK_tellsBond prog_13_method_111_code 4 (some .int) 2 := ⟨tw1766, tw108, ⟨by decide, by decide⟩, by decide +kernel, by decide, by decide⟩
def cK_tellsBond : List (Ent (Int32 × Mem)) := [(false, 0, 1, sLdA 0),
  (false, 1, 2, sC 13),
  (false, 3, 3, sInv 2 false dK_ran),
  (false, 6, 1, sLdA 0),
  (false, 7, 1, sLdI 1),
  (false, 8, 1, sLdI 2),
  (false, 9, 3, sInv 3 true dK_paysOf),
  (false, 12, 1, sStI 3),
  (false, 13, 1, sLdI 3),
  (false, 14, 1, sLdA 0),
  (false, 15, 1, sLdI 1),
  (false, 16, 1, sLdI 2),
  (false, 17, 3, sInv 3 true dK_endsOf),
  (false, 20, 1, sBin (fun x y => x ^^^ y)),
  (false, 21, 1, sRetI)]
theorem oK_tellsBond {E : EV} (hsd : E.2.2.2 = 1) (l : Launch) : AllOK E l 7 "FreeLancesModel" prog_13_method_111_code 4 (some .int) outI (cK_tellsBond) := by
  refine ak (ok_aload_n (k := 0) rfl (by decide +kernel)) ?_
  refine ak (ok_bipush (n := 13) (by decide) (by decide +kernel)) ?_
  refine ak (ok_invV (r := 40) (kK_ran hsd l) qK_ran ck11 kd40 iK_ran tw1733 tw87 (by decide) tw1731 (by decide +kernel)) ?_
  refine ak (ok_aload_n (k := 0) rfl (by decide +kernel)) ?_
  refine ak (ok_iload_n (k := 1) rfl (by decide +kernel)) ?_
  refine ak (ok_iload_n (k := 2) rfl (by decide +kernel)) ?_
  refine ak (ok_invV (r := 40) (kK_paysOf hsd l) qK_paysOf ck11 kd40 iK_paysOf tw1741 tw89 (by decide) tw1739 (by decide +kernel)) ?_
  refine ak (ok_istore_n (k := 3) rfl (by decide) (by decide +kernel)) ?_
  refine ak (ok_iload_n (k := 3) rfl (by decide +kernel)) ?_
  refine ak (ok_aload_n (k := 0) rfl (by decide +kernel)) ?_
  refine ak (ok_iload_n (k := 1) rfl (by decide +kernel)) ?_
  refine ak (ok_iload_n (k := 2) rfl (by decide +kernel)) ?_
  refine ak (ok_invV (r := 40) (kK_endsOf hsd l) qK_endsOf ck11 kd40 iK_endsOf tw1749 tw91 (by decide) tw1747 (by decide +kernel)) ?_
  refine ak (ok_ixor (by decide +kernel)) ?_
  refine ak (ok_ireturn rfl (by decide +kernel)) ?_
  exact trivial
set_option maxRecDepth 1000000 in
theorem eK_tellsBond (x1 : Int32) (x2 : Int32) (M : Mem) : run (cK_tellsBond) (fun _ _ _ _ => none) rtI 400 (seek (cK_tellsBond) 0) [aR (40, 0, 0), aI x1, aI x2, aU] [] M = mK_tellsBond x1 x2 M := id rfl
theorem lK_tellsBond {E : EV} {l : Launch} {p : Program} {e : Env} {s : State} {m : MethodId} {args : Array Value} {below : List Frame} {meth : Method} {c : Code} (A : AllOK E l 7 "FreeLancesModel" prog_13_method_111_code 4 (some .int) outI (cK_tellsBond)) (C : Cx E p s m args meth c "FreeLancesModel" prog_13_method_111_code 4 (some .int)) : ∀ (x1 : Int32) (x2 : Int32) (M : Mem) (res : (Int32 × Mem)), mK_tellsBond x1 x2 M = some res → Wm E p l e 7 s m args below meth c 4 0 [aR (40, 0, 0), aI x1, aI x2, aU] [] M (outI res).1 (outI res).2 := by
  intro x1 x2 M res h
  refine run_at C A rfl hrtI (n := 400) ((eK_tellsBond x1 x2 M).trans h) ?_
  intro t als st M hk; cases hk
def dK_tellsBond {β : Type} : Den β := fun as M k => match as with
  | [.inr (.inr (.inl (al0, bl0, cl0))), .inl x1, .inl x2] => if al0 = 40 ∧ bl0 = 0 ∧ cl0 = 0 then (mK_tellsBond x1 x2 M).bind fun q => k (aI q.1) q.2 else none
  | _ => none
theorem wK_tellsBond {E : EV} (hsd : E.2.2.2 = 1) (l : Launch) (x1 : Int32) (x2 : Int32) (M : Mem) (q : (Int32 × Mem)) (hq : mK_tellsBond x1 x2 M = some q) : Con E l 7 yK_tellsBond prog_13_method_111_code 4 (some .int) [aR (40, 0, 0), aI x1, aI x2] M (outI q).1 (outI q).2 := by
  refine con_of iK_tellsBond (Nat.le_of_ble_eq_true rfl) ?_
  intro p e s m args below meth c C
  exact lK_tellsBond (oK_tellsBond hsd l) C x1 x2 M _ hq
theorem kK_tellsBond {E : EV} (hsd : E.2.2.2 = 1) (l : Launch) {β : Type} : DenOK E l 7 yK_tellsBond prog_13_method_111_code 4 (some .int) true (dK_tellsBond (β := β)) := by
  intro as M k res h
  unfold dK_tellsBond at h
  split at h
  ·
    split at h
    · rename_i hc
      obtain ⟨rfl, rfl, rfl⟩ := hc
      obtain ⟨q, hq, hk⟩ := Option.bind_eq_some_iff.mp h
      exact ⟨aI q.1, q.2, hk, rfl, wK_tellsBond hsd l _ _ M q hq⟩
    · cases h
  · cases h
theorem qK_tellsBond {β : Type} : RecOK 40 (dK_tellsBond (β := β)) := by
  intro as M k res h
  unfold dK_tellsBond at h
  split at h
  ·
    split at h
    · rename_i hc
      obtain ⟨rfl, rfl, rfl⟩ := hc
      exact ⟨_, _, _, rfl⟩
    · cases h
  · cases h
