/-! ===== FreeLancesModel.reads(I)Z ===== -/
abbrev yK_reads : MethodName := ⟨"FreeLancesModel", "reads", "(I)Z"⟩
theorem iK_reads : MI yK_reads prog_13_method_49_code 5 (some .boolean) 1 := ⟨tw1480, tw108, ⟨by decide, by decide⟩, by decide +kernel, by decide, by decide⟩
def cK_reads : List (Ent (Int32 × Mem)) := [(false, 0, 1, sLdA 0),
  (false, 1, 1, sC 0),
  (false, 2, 3, sPut 40 10),
  (false, 5, 1, sLdA 0),
  (false, 6, 1, sC 0),
  (false, 7, 3, sPut 40 11),
  (false, 10, 1, sLdA 0),
  (false, 11, 1, sC 0),
  (false, 12, 3, sPut 40 12),
  (false, 15, 1, sC 1),
  (false, 16, 1, sStI 2),
  (true, 17, 1, sLdA 0),
  (false, 18, 1, sLdA 0),
  (false, 19, 3, sGet 40 (fun w i M => aI (M 40 w i 12))),
  (false, 22, 3, sInv 2 true dK_byteAt),
  (false, 25, 1, sStI 3),
  (false, 26, 1, sLdI 2),
  (false, 27, 3, sIfEq 69),
  (false, 30, 1, sLdA 0),
  (false, 31, 1, sLdI 1),
  (false, 32, 3, sInv 2 true dK_readsOne),
  (false, 35, 2, sStI 4),
  (false, 37, 2, sLdI 4),
  (false, 39, 3, sIfNe 44),
  (false, 42, 1, sC 0),
  (false, 43, 1, sRetZ),
  (false, 44, 2, sLdI 4),
  (false, 46, 1, sC 2),
  (false, 47, 3, sCmpNe 54),
  (false, 50, 1, sC 1),
  (false, 51, 3, sGoto 55),
  (false, 54, 1, sC 0),
  (false, 55, 1, sStI 2),
  (false, 56, 1, sLdI 2),
  (false, 57, 3, sIfNe 66),
  (false, 60, 1, sLdA 0),
  (false, 61, 2, sC 6),
  (false, 63, 3, sInv 2 false dK_settles),
  (false, 66, 3, sGoto 207),
  (false, 69, 1, sLdI 3),
  (false, 70, 3, sIfGe 89),
  (false, 73, 1, sLdA 0),
  (false, 74, 3, sInv 1 true dK_hasOpen),
  (false, 77, 3, sIfEq 82),
  (false, 80, 1, sC 0),
  (false, 81, 1, sRetZ),
  (false, 82, 1, sLdA 0),
  (false, 83, 1, sC 1),
  (false, 84, 3, sInv 2 false dK_settles),
  (false, 87, 1, sC 1),
  (false, 88, 1, sRetZ),
  (false, 89, 1, sLdI 3),
  (false, 90, 2, sC 41),
  (false, 92, 3, sCmpNe 136),
  (false, 95, 1, sLdA 0),
  (false, 96, 3, sInv 1 true dK_hasOpen),
  (false, 99, 3, sIfEq 136),
  (false, 102, 1, sLdA 0),
  (false, 103, 1, sC 1),
  (false, 104, 3, sInv 2 false dK_settles),
  (false, 107, 1, sLdA 0),
  (false, 108, 1, sDup),
  (false, 109, 3, sGet 40 (fun w i M => aI (M 40 w i 11))),
  (false, 112, 1, sC 1),
  (false, 113, 1, sBin (fun x y => x - y)),
  (false, 114, 3, sPut 40 11),
  (false, 117, 1, sLdA 0),
  (false, 118, 1, sDup),
  (false, 119, 3, sGet 40 (fun w i M => aI (M 40 w i 12))),
  (false, 122, 1, sC 1),
  (false, 123, 1, sBin (fun x y => x + y)),
  (false, 124, 3, sPut 40 12),
  (false, 127, 1, sLdA 0),
  (false, 128, 2, sC 6),
  (false, 130, 3, sInv 2 false dK_settles),
  (false, 133, 3, sGoto 207),
  (true, 136, 1, sLdI 3),
  (false, 137, 3, sInv 1 true dK_rankOf),
  (false, 140, 2, sStI 4),
  (false, 142, 2, sLdI 4),
  (false, 144, 3, sIfEq 167),
  (false, 147, 2, sLdI 4),
  (false, 149, 2, sC 6),
  (false, 151, 3, sCmpEq 167),
  (false, 154, 2, sLdI 4),
  (false, 156, 1, sC 3),
  (false, 157, 3, sCmpNe 169),
  (false, 160, 1, sLdA 0),
  (false, 161, 3, sInv 1 true dK_isTested),
  (false, 164, 3, sIfEq 169),
  (false, 167, 1, sC 0),
  (false, 168, 1, sRetZ),
  (false, 169, 1, sLdA 0),
  (false, 170, 2, sLdI 4),
  (false, 172, 3, sInv 2 false dK_settles),
  (false, 175, 1, sLdA 0),
  (false, 176, 3, sGet 40 (fun w i M => aR (48, 0, 0))),
  (false, 179, 1, sLdA 0),
  (false, 180, 3, sGet 40 (fun w i M => aI (M 40 w i 11))),
  (false, 183, 1, sLdI 3),
  (false, 184, 1, sIast 48 50),
  (false, 185, 1, sLdA 0),
  (false, 186, 1, sDup),
  (false, 187, 3, sGet 40 (fun w i M => aI (M 40 w i 11))),
  (false, 190, 1, sC 1),
  (false, 191, 1, sBin (fun x y => x + y)),
  (false, 192, 3, sPut 40 11),
  (false, 195, 1, sLdA 0),
  (false, 196, 1, sDup),
  (false, 197, 3, sGet 40 (fun w i M => aI (M 40 w i 12))),
  (false, 200, 1, sC 1),
  (false, 201, 1, sBin (fun x y => x + y)),
  (false, 202, 3, sPut 40 12),
  (false, 205, 1, sC 1),
  (false, 206, 1, sStI 2),
  (false, 207, 3, sGoto 17)]
theorem oK_reads {E : EV} (hsd : E.2.2.2 = 1) (l : Launch) : AllOK E l 3 "FreeLancesModel" prog_13_method_49_code 5 (some .boolean) outI (cK_reads) := by
  refine ak (ok_aload_n (k := 0) rfl (by decide +kernel)) ?_
  refine ak (ok_iconst (n := 0) (by decide) (by decide +kernel)) ?_
  refine ak (ok_put (k := 10) ck11 kd40 (by decide) (fun _ _ _ => rfl) rfl rfl (by decide) tw1252 (by decide +kernel)) ?_
  refine ak (ok_aload_n (k := 0) rfl (by decide +kernel)) ?_
  refine ak (ok_iconst (n := 0) (by decide) (by decide +kernel)) ?_
  refine ak (ok_put (k := 11) ck11 kd40 (by decide) (fun _ _ _ => rfl) rfl rfl (by decide) tw1253 (by decide +kernel)) ?_
  refine ak (ok_aload_n (k := 0) rfl (by decide +kernel)) ?_
  refine ak (ok_iconst (n := 0) (by decide) (by decide +kernel)) ?_
  refine ak (ok_put (k := 12) ck11 kd40 (by decide) (fun _ _ _ => rfl) rfl rfl (by decide) tw1254 (by decide +kernel)) ?_
  refine ak (ok_iconst (n := 1) (by decide) (by decide +kernel)) ?_
  refine ak (ok_istore_n (k := 2) rfl (by decide) (by decide +kernel)) ?_
  refine ak (ok_aload_n (k := 0) rfl (by decide +kernel)) ?_
  refine ak (ok_aload_n (k := 0) rfl (by decide +kernel)) ?_
  refine ak (ok_get (k := 12) ck11 kd40 (by decide) (fun _ _ _ => rfl) (fun _ _ _ _ _ => trivial) tw1254 (by decide +kernel)) ?_
  refine ak (ok_invV (r := 40) (kK_byteAt hsd l) qK_byteAt ck11 kd40 iK_byteAt tw1483 tw57 (by decide) tw1481 (by decide +kernel)) ?_
  refine ak (ok_istore_n (k := 3) rfl (by decide) (by decide +kernel)) ?_
  refine ak (ok_iload_n (k := 2) rfl (by decide +kernel)) ?_
  refine ak (ok_if_eq (off := 42) (by decide) (by decide +kernel)) ?_
  refine ak (ok_aload_n (k := 0) rfl (by decide +kernel)) ?_
  refine ak (ok_iload_n (k := 1) rfl (by decide +kernel)) ?_
  refine ak (ok_invV (r := 40) (kK_readsOne hsd l) qK_readsOne ck11 kd40 iK_readsOne tw1487 tw58 (by decide) tw1485 (by decide +kernel)) ?_
  refine ak (ok_istore (by decide) (by decide +kernel)) ?_
  refine ak (ok_iload (by decide +kernel)) ?_
  refine ak (ok_if_ne (off := 5) (by decide) (by decide +kernel)) ?_
  refine ak (ok_iconst (n := 0) (by decide) (by decide +kernel)) ?_
  refine ak (ok_zreturn rfl (by decide +kernel)) ?_
  refine ak (ok_iload (by decide +kernel)) ?_
  refine ak (ok_iconst (n := 2) (by decide) (by decide +kernel)) ?_
  refine ak (ok_icmp_ne (off := 7) (by decide) (by decide +kernel)) ?_
  refine ak (ok_iconst (n := 1) (by decide) (by decide +kernel)) ?_
  refine ak (ok_goto (off := 4) (by decide) (by decide +kernel)) ?_
  refine ak (ok_iconst (n := 0) (by decide) (by decide +kernel)) ?_
  refine ak (ok_istore_n (k := 2) rfl (by decide) (by decide +kernel)) ?_
  refine ak (ok_iload_n (k := 2) rfl (by decide +kernel)) ?_
  refine ak (ok_if_ne (off := 9) (by decide) (by decide +kernel)) ?_
  refine ak (ok_aload_n (k := 0) rfl (by decide +kernel)) ?_
  refine ak (ok_bipush (n := 6) (by decide) (by decide +kernel)) ?_
  refine ak (ok_invV (r := 40) (kK_settles hsd l) qK_settles ck11 kd40 iK_settles tw1505 tw61 (by decide) tw1503 (by decide +kernel)) ?_
  refine ak (ok_goto (off := 141) (by decide) (by decide +kernel)) ?_
  refine ak (ok_iload_n (k := 3) rfl (by decide +kernel)) ?_
  refine ak (ok_if_ge (off := 19) (by decide) (by decide +kernel)) ?_
  refine ak (ok_aload_n (k := 0) rfl (by decide +kernel)) ?_
  refine ak (ok_invV (r := 40) (kK_hasOpen hsd l) qK_hasOpen ck11 kd40 iK_hasOpen tw1512 tw62 (by decide) tw1510 (by decide +kernel)) ?_
  refine ak (ok_if_eq (off := 5) (by decide) (by decide +kernel)) ?_
  refine ak (ok_iconst (n := 0) (by decide) (by decide +kernel)) ?_
  refine ak (ok_zreturn rfl (by decide +kernel)) ?_
  refine ak (ok_aload_n (k := 0) rfl (by decide +kernel)) ?_
  refine ak (ok_iconst (n := 1) (by decide) (by decide +kernel)) ?_
  refine ak (ok_invV (r := 40) (kK_settles hsd l) qK_settles ck11 kd40 iK_settles tw1505 tw61 (by decide) tw1503 (by decide +kernel)) ?_
  refine ak (ok_iconst (n := 1) (by decide) (by decide +kernel)) ?_
  refine ak (ok_zreturn rfl (by decide +kernel)) ?_
  refine ak (ok_iload_n (k := 3) rfl (by decide +kernel)) ?_
  refine ak (ok_bipush (n := 41) (by decide) (by decide +kernel)) ?_
  refine ak (ok_icmp_ne (off := 44) (by decide) (by decide +kernel)) ?_
  refine ak (ok_aload_n (k := 0) rfl (by decide +kernel)) ?_
  refine ak (ok_invV (r := 40) (kK_hasOpen hsd l) qK_hasOpen ck11 kd40 iK_hasOpen tw1512 tw62 (by decide) tw1510 (by decide +kernel)) ?_
  refine ak (ok_if_eq (off := 37) (by decide) (by decide +kernel)) ?_
  refine ak (ok_aload_n (k := 0) rfl (by decide +kernel)) ?_
  refine ak (ok_iconst (n := 1) (by decide) (by decide +kernel)) ?_
  refine ak (ok_invV (r := 40) (kK_settles hsd l) qK_settles ck11 kd40 iK_settles tw1505 tw61 (by decide) tw1503 (by decide +kernel)) ?_
  refine ak (ok_aload_n (k := 0) rfl (by decide +kernel)) ?_
  refine ak (ok_dup (by decide +kernel)) ?_
  refine ak (ok_get (k := 11) ck11 kd40 (by decide) (fun _ _ _ => rfl) (fun _ _ _ _ _ => trivial) tw1253 (by decide +kernel)) ?_
  refine ak (ok_iconst (n := 1) (by decide) (by decide +kernel)) ?_
  refine ak (ok_isub (by decide +kernel)) ?_
  refine ak (ok_put (k := 11) ck11 kd40 (by decide) (fun _ _ _ => rfl) rfl rfl (by decide) tw1253 (by decide +kernel)) ?_
  refine ak (ok_aload_n (k := 0) rfl (by decide +kernel)) ?_
  refine ak (ok_dup (by decide +kernel)) ?_
  refine ak (ok_get (k := 12) ck11 kd40 (by decide) (fun _ _ _ => rfl) (fun _ _ _ _ _ => trivial) tw1254 (by decide +kernel)) ?_
  refine ak (ok_iconst (n := 1) (by decide) (by decide +kernel)) ?_
  refine ak (ok_iadd (by decide +kernel)) ?_
  refine ak (ok_put (k := 12) ck11 kd40 (by decide) (fun _ _ _ => rfl) rfl rfl (by decide) tw1254 (by decide +kernel)) ?_
  refine ak (ok_aload_n (k := 0) rfl (by decide +kernel)) ?_
  refine ak (ok_bipush (n := 6) (by decide) (by decide +kernel)) ?_
  refine ak (ok_invV (r := 40) (kK_settles hsd l) qK_settles ck11 kd40 iK_settles tw1505 tw61 (by decide) tw1503 (by decide +kernel)) ?_
  refine ak (ok_goto (off := 74) (by decide) (by decide +kernel)) ?_
  refine ak (ok_iload_n (k := 3) rfl (by decide +kernel)) ?_
  refine ak (ok_invS (kK_rankOf hsd l) iK_rankOf tw1508 (by decide) tw1507 (by decide +kernel)) ?_
  refine ak (ok_istore (by decide) (by decide +kernel)) ?_
  refine ak (ok_iload (by decide +kernel)) ?_
  refine ak (ok_if_eq (off := 23) (by decide) (by decide +kernel)) ?_
  refine ak (ok_iload (by decide +kernel)) ?_
  refine ak (ok_bipush (n := 6) (by decide) (by decide +kernel)) ?_
  refine ak (ok_icmp_eq (off := 16) (by decide) (by decide +kernel)) ?_
  refine ak (ok_iload (by decide +kernel)) ?_
  refine ak (ok_iconst (n := 3) (by decide) (by decide +kernel)) ?_
  refine ak (ok_icmp_ne (off := 12) (by decide) (by decide +kernel)) ?_
  refine ak (ok_aload_n (k := 0) rfl (by decide +kernel)) ?_
  refine ak (ok_invV (r := 40) (kK_isTested hsd l) qK_isTested ck11 kd40 iK_isTested tw1516 tw63 (by decide) tw1514 (by decide +kernel)) ?_
  refine ak (ok_if_eq (off := 5) (by decide) (by decide +kernel)) ?_
  refine ak (ok_iconst (n := 0) (by decide) (by decide +kernel)) ?_
  refine ak (ok_zreturn rfl (by decide +kernel)) ?_
  refine ak (ok_aload_n (k := 0) rfl (by decide +kernel)) ?_
  refine ak (ok_iload (by decide +kernel)) ?_
  refine ak (ok_invV (r := 40) (kK_settles hsd l) qK_settles ck11 kd40 iK_settles tw1505 tw61 (by decide) tw1503 (by decide +kernel)) ?_
  refine ak (ok_aload_n (k := 0) rfl (by decide +kernel)) ?_
  refine ak (ok_get (k := 7) ck11 kd40 (by decide) (fun _ _ _ => rfl) (vf_40_7 hsd) tw1249 (by decide +kernel)) ?_
  refine ak (ok_aload_n (k := 0) rfl (by decide +kernel)) ?_
  refine ak (ok_get (k := 11) ck11 kd40 (by decide) (fun _ _ _ => rfl) (fun _ _ _ _ _ => trivial) tw1253 (by decide +kernel)) ?_
  refine ak (ok_iload_n (k := 3) rfl (by decide +kernel)) ?_
  refine ak (ok_iast kd48 (by decide) (by decide) (by decide +kernel)) ?_
  refine ak (ok_aload_n (k := 0) rfl (by decide +kernel)) ?_
  refine ak (ok_dup (by decide +kernel)) ?_
  refine ak (ok_get (k := 11) ck11 kd40 (by decide) (fun _ _ _ => rfl) (fun _ _ _ _ _ => trivial) tw1253 (by decide +kernel)) ?_
  refine ak (ok_iconst (n := 1) (by decide) (by decide +kernel)) ?_
  refine ak (ok_iadd (by decide +kernel)) ?_
  refine ak (ok_put (k := 11) ck11 kd40 (by decide) (fun _ _ _ => rfl) rfl rfl (by decide) tw1253 (by decide +kernel)) ?_
  refine ak (ok_aload_n (k := 0) rfl (by decide +kernel)) ?_
  refine ak (ok_dup (by decide +kernel)) ?_
  refine ak (ok_get (k := 12) ck11 kd40 (by decide) (fun _ _ _ => rfl) (fun _ _ _ _ _ => trivial) tw1254 (by decide +kernel)) ?_
  refine ak (ok_iconst (n := 1) (by decide) (by decide +kernel)) ?_
  refine ak (ok_iadd (by decide +kernel)) ?_
  refine ak (ok_put (k := 12) ck11 kd40 (by decide) (fun _ _ _ => rfl) rfl rfl (by decide) tw1254 (by decide +kernel)) ?_
  refine ak (ok_iconst (n := 1) (by decide) (by decide +kernel)) ?_
  refine ak (ok_istore_n (k := 2) rfl (by decide) (by decide +kernel)) ?_
  refine ak (ok_goto (off := (-190)) (by decide) (by decide +kernel)) ?_
  exact trivial
def KK_reads_136 (j17 : Int32 → Int32 → Mem → Option (Int32 × Mem)) : Jm (Int32 × Mem) := fun t als st M =>
  if t = 17 then (match als, st with
  | [.inr (.inr (.inl (al0, bl0, cl0))), .inl x1, .inl x2, _, _], [] => if al0 = 40 ∧ bl0 = 0 ∧ cl0 = 0 then j17 x1 x2 M else none
  | _, _ => none) else
  none
set_option maxRecDepth 1000000 in
theorem eK_reads_136 (j17 : Int32 → Int32 → Mem → Option (Int32 × Mem)) (x1 : Int32) (x3 : Int32) (M : Mem) (u2 u4 : AV) : run (cK_reads) (KK_reads_136 j17) rtI 400 (seek (cK_reads) 136) [aR (40, 0, 0), aI x1, u2, aI x3, u4] [] M = mK_reads_136b j17 x1 x3 M := id rfl
theorem lK_reads_136 {E : EV} {l : Launch} {p : Program} {e : Env} {s : State} {m : MethodId} {args : Array Value} {below : List Frame} {meth : Method} {c : Code} (A : AllOK E l 3 "FreeLancesModel" prog_13_method_49_code 5 (some .boolean) outI (cK_reads)) (C : Cx E p s m args meth c "FreeLancesModel" prog_13_method_49_code 5 (some .boolean)) {r17 : Int32 → Int32 → Mem → Option (Int32 × Mem)} (H17 : ∀ (x1 : Int32) (x2 : Int32) (M : Mem) (res : (Int32 × Mem)), r17 x1 x2 M = some res → ∀ (u3 u4 : AV), Wm E p l e 3 s m args below meth c 5 17 [aR (40, 0, 0), aI x1, aI x2, u3, u4] [] M (outI res).1 (outI res).2) : ∀ (x1 : Int32) (x3 : Int32) (M : Mem) (res : (Int32 × Mem)), mK_reads_136 r17 x1 x3 M = some res → ∀ (u2 u4 : AV), Wm E p l e 3 s m args below meth c 5 136 [aR (40, 0, 0), aI x1, u2, aI x3, u4] [] M (outI res).1 (outI res).2 := by
  intro x1 x3 M res h u2 u4
  refine run_at C A rfl hrtI (n := 400) ((eK_reads_136 r17 x1 x3 M u2 u4).trans h) ?_
  intro t als st M hk
  unfold KK_reads_136 at hk
  split at hk
  · rename_i ht
    subst ht
    split at hk
    · split at hk
      · rename_i hc
        obtain ⟨rfl, rfl, rfl⟩ := hc
        exact H17 _ _ _ _ hk _ _
      · cases hk
    · cases hk
  cases hk
def KK_reads_17 (j17 : Int32 → Int32 → Mem → Option (Int32 × Mem)) (j136 : Int32 → Int32 → Mem → Option (Int32 × Mem)) : Jm (Int32 × Mem) := fun t als st M =>
  if t = 17 then (match als, st with
  | [.inr (.inr (.inl (al0, bl0, cl0))), .inl x1, .inl x2, _, _], [] => if al0 = 40 ∧ bl0 = 0 ∧ cl0 = 0 then j17 x1 x2 M else none
  | _, _ => none) else
  if t = 136 then (match als, st with
  | [.inr (.inr (.inl (al0, bl0, cl0))), .inl x1, _, .inl x3, _], [] => if al0 = 40 ∧ bl0 = 0 ∧ cl0 = 0 then j136 x1 x3 M else none
  | _, _ => none) else
  none
set_option maxRecDepth 1000000 in
theorem eK_reads_17 (j17 : Int32 → Int32 → Mem → Option (Int32 × Mem)) (j136 : Int32 → Int32 → Mem → Option (Int32 × Mem)) (x1 : Int32) (x2 : Int32) (M : Mem) (u3 u4 : AV) : run (cK_reads) (KK_reads_17 j17 j136) rtI 400 (seek (cK_reads) 17) [aR (40, 0, 0), aI x1, aI x2, u3, u4] [] M = mK_reads_17b j17 j136 x1 x2 M := id rfl
theorem lK_reads_17 {E : EV} {l : Launch} {p : Program} {e : Env} {s : State} {m : MethodId} {args : Array Value} {below : List Frame} {meth : Method} {c : Code} (A : AllOK E l 3 "FreeLancesModel" prog_13_method_49_code 5 (some .boolean) outI (cK_reads)) (C : Cx E p s m args meth c "FreeLancesModel" prog_13_method_49_code 5 (some .boolean)) : ∀ (n : Nat), ∀ (x1 : Int32) (x2 : Int32) (M : Mem) (res : (Int32 × Mem)), mK_reads_17 n x1 x2 M = some res → ∀ (u3 u4 : AV), Wm E p l e 3 s m args below meth c 5 17 [aR (40, 0, 0), aI x1, aI x2, u3, u4] [] M (outI res).1 (outI res).2 := by
  intro n
  induction n with
  | zero => intro _ _ M res h; cases h
  | succ n ih =>
    intro x1 x2 M res h u3 u4
    refine run_at C A rfl hrtI (n := 400) ((eK_reads_17 (mK_reads_17 n) (mK_reads_136 (mK_reads_17 n)) x1 x2 M u3 u4).trans h) ?_
    intro t als st M hk
    unfold KK_reads_17 at hk
    split at hk
    · rename_i ht
      subst ht
      split at hk
      · split at hk
        · rename_i hc
          obtain ⟨rfl, rfl, rfl⟩ := hc
          exact ih _ _ _ _ hk _ _
        · cases hk
      · cases hk
    split at hk
    · rename_i ht
      subst ht
      split at hk
      · split at hk
        · rename_i hc
          obtain ⟨rfl, rfl, rfl⟩ := hc
          exact lK_reads_136 A C ih _ _ _ _ hk _ _
        · cases hk
      · cases hk
    cases hk
def KK_reads (j17 : Int32 → Int32 → Mem → Option (Int32 × Mem)) : Jm (Int32 × Mem) := fun t als st M =>
  if t = 17 then (match als, st with
  | [.inr (.inr (.inl (al0, bl0, cl0))), .inl x1, .inl x2, _, _], [] => if al0 = 40 ∧ bl0 = 0 ∧ cl0 = 0 then j17 x1 x2 M else none
  | _, _ => none) else
  none
set_option maxRecDepth 1000000 in
theorem eK_reads (j17 : Int32 → Int32 → Mem → Option (Int32 × Mem)) (x1 : Int32) (M : Mem) : run (cK_reads) (KK_reads j17) rtI 400 (seek (cK_reads) 0) [aR (40, 0, 0), aI x1, aU, aU, aU] [] M = mK_readsb j17 x1 M := id rfl
theorem lK_reads {E : EV} {l : Launch} {p : Program} {e : Env} {s : State} {m : MethodId} {args : Array Value} {below : List Frame} {meth : Method} {c : Code} (A : AllOK E l 3 "FreeLancesModel" prog_13_method_49_code 5 (some .boolean) outI (cK_reads)) (C : Cx E p s m args meth c "FreeLancesModel" prog_13_method_49_code 5 (some .boolean)) : ∀ (x1 : Int32) (M : Mem) (res : (Int32 × Mem)), mK_reads x1 M = some res → Wm E p l e 3 s m args below meth c 5 0 [aR (40, 0, 0), aI x1, aU, aU, aU] [] M (outI res).1 (outI res).2 := by
  intro x1 M res h
  refine run_at C A rfl hrtI (n := 400) ((eK_reads (mK_reads_17 fuel) x1 M).trans h) ?_
  intro t als st M hk
  unfold KK_reads at hk
  split at hk
  · rename_i ht
    subst ht
    split at hk
    · split at hk
      · rename_i hc
        obtain ⟨rfl, rfl, rfl⟩ := hc
        exact lK_reads_17 A C _ _ _ _ _ hk _ _
      · cases hk
    · cases hk
  cases hk
def dK_reads {β : Type} : Den β := fun as M k => match as with
  | [.inr (.inr (.inl (al0, bl0, cl0))), .inl x1] => if al0 = 40 ∧ bl0 = 0 ∧ cl0 = 0 then (mK_reads x1 M).bind fun q => k (aI q.1) q.2 else none
  | _ => none
theorem wK_reads {E : EV} (hsd : E.2.2.2 = 1) (l : Launch) (x1 : Int32) (M : Mem) (q : (Int32 × Mem)) (hq : mK_reads x1 M = some q) : Con E l 3 yK_reads prog_13_method_49_code 5 (some .boolean) [aR (40, 0, 0), aI x1] M (outI q).1 (outI q).2 := by
  refine con_of iK_reads (Nat.le_of_ble_eq_true rfl) ?_
  intro p e s m args below meth c C
  exact lK_reads (oK_reads hsd l) C x1 M _ hq
theorem kK_reads {E : EV} (hsd : E.2.2.2 = 1) (l : Launch) {β : Type} : DenOK E l 3 yK_reads prog_13_method_49_code 5 (some .boolean) true (dK_reads (β := β)) := by
  intro as M k res h
  unfold dK_reads at h
  split at h
  ·
    split at h
    · rename_i hc
      obtain ⟨rfl, rfl, rfl⟩ := hc
      obtain ⟨q, hq, hk⟩ := Option.bind_eq_some_iff.mp h
      exact ⟨aI q.1, q.2, hk, rfl, wK_reads hsd l _ M q hq⟩
    · cases h
  · cases h
theorem qK_reads {β : Type} : RecOK 40 (dK_reads (β := β)) := by
  intro as M k res h
  unfold dK_reads at h
  split at h
  ·
    split at h
    · rename_i hc
      obtain ⟨rfl, rfl, rfl⟩ := hc
      exact ⟨_, _, _, rfl⟩
    · cases h
  · cases h
/-! ===== FreeLancesModel.statute(II)I ===== -/
abbrev yK_statute : MethodName := ⟨"FreeLancesModel", "statute", "(II)I"⟩
theorem iK_statute : MI yK_statute prog_13_method_50_code 7 (some .int) 2 := ⟨tw1473, tw108, ⟨by decide, by decide⟩, by decide +kernel, by decide, by decide⟩
def cK_statute : List (Ent (Int32 × Mem)) := [(false, 0, 1, sLdI 1),
  (false, 1, 1, sC 0),
  (false, 2, 1, sC 3),
  (false, 3, 3, sInv 3 true dK_in),
  (false, 6, 3, sIfEq 16),
  (false, 9, 1, sLdI 2),
  (false, 10, 3, sInv 1 true dK_isDay),
  (false, 13, 3, sIfNe 22),
  (false, 16, 1, sLdA 0),
  (false, 17, 1, sC 1),
  (false, 18, 3, sInv 2 true dK_finds),
  (false, 21, 1, sRetI),
  (false, 22, 1, sLdA 0),
  (false, 23, 3, sGet 40 (fun w i M => aR (41, 0, 0))),
  (false, 26, 1, sC 4),
  (false, 27, 1, sIald 41 1502),
  (false, 28, 1, sStI 3),
  (false, 29, 1, sLdI 3),
  (false, 30, 2, sC 12),
  (false, 32, 3, sCmpNe 41),
  (false, 35, 1, sLdA 0),
  (false, 36, 1, sC 4),
  (false, 37, 3, sInv 2 true dK_finds),
  (false, 40, 1, sRetI),
  (false, 41, 1, sLdA 0),
  (false, 42, 1, sLdI 1),
  (false, 43, 3, sInv 2 true dK_reads),
  (false, 46, 2, sStI 4),
  (false, 48, 1, sLdA 0),
  (false, 49, 3, sGet 40 (fun w i M => aR (41, 0, 0))),
  (false, 52, 2, sC 7),
  (false, 54, 1, sC 0),
  (false, 55, 1, sIast 41 1502),
  (false, 56, 2, sLdI 4),
  (false, 58, 3, sIfNe 69),
  (false, 61, 2, sC (-10)),
  (false, 63, 1, sLdA 0),
  (false, 64, 3, sGet 40 (fun w i M => aI (M 40 w i 12))),
  (false, 67, 1, sBin (fun x y => x - y)),
  (false, 68, 1, sRetI),
  (false, 69, 3, sC 420),
  (false, 72, 2, sC 53),
  (false, 74, 1, sLdI 3),
  (false, 75, 1, sBin (fun x y => x * y)),
  (false, 76, 1, sBin (fun x y => x + y)),
  (false, 77, 2, sStI 5),
  (false, 79, 1, sLdA 0),
  (false, 80, 3, sGet 40 (fun w i M => aR (41, 0, 0))),
  (false, 83, 1, sC 4),
  (false, 84, 1, sDup2),
  (false, 85, 1, sIald 41 1502),
  (false, 86, 1, sC 1),
  (false, 87, 1, sBin (fun x y => x + y)),
  (false, 88, 1, sIast 41 1502),
  (false, 89, 1, sLdA 0),
  (false, 90, 3, sGet 40 (fun w i M => aR (41, 0, 0))),
  (false, 93, 2, sLdI 5),
  (false, 95, 1, sLdI 1),
  (false, 96, 1, sIast 41 1502),
  (false, 97, 1, sLdA 0),
  (false, 98, 3, sGet 40 (fun w i M => aR (41, 0, 0))),
  (false, 101, 2, sLdI 5),
  (false, 103, 1, sC 1),
  (false, 104, 1, sBin (fun x y => x + y)),
  (false, 105, 1, sLdI 2),
  (false, 106, 1, sIast 41 1502),
  (false, 107, 1, sLdA 0),
  (false, 108, 3, sGet 40 (fun w i M => aR (41, 0, 0))),
  (false, 111, 2, sLdI 5),
  (false, 113, 1, sC 2),
  (false, 114, 1, sBin (fun x y => x + y)),
  (false, 115, 1, sLdA 0),
  (false, 116, 3, sGet 40 (fun w i M => aI (M 40 w i 10))),
  (false, 119, 1, sIast 41 1502),
  (false, 120, 1, sC 0),
  (false, 121, 2, sStI 6),
  (true, 123, 2, sLdI 6),
  (false, 125, 1, sLdA 0),
  (false, 126, 3, sGet 40 (fun w i M => aI (M 40 w i 10))),
  (false, 129, 3, sCmpGe 157),
  (false, 132, 1, sLdA 0),
  (false, 133, 3, sGet 40 (fun w i M => aR (41, 0, 0))),
  (false, 136, 2, sLdI 5),
  (false, 138, 1, sC 3),
  (false, 139, 1, sBin (fun x y => x + y)),
  (false, 140, 2, sLdI 6),
  (false, 142, 1, sBin (fun x y => x + y)),
  (false, 143, 1, sLdA 0),
  (false, 144, 3, sGet 40 (fun w i M => aR (47, 0, 0))),
  (false, 147, 2, sLdI 6),
  (false, 149, 1, sIald 47 50),
  (false, 150, 1, sIast 41 1502),
  (false, 151, 3, sInc 6 1),
  (false, 154, 3, sGoto 123),
  (false, 157, 1, sLdI 3),
  (false, 158, 1, sRetI)]
theorem oK_statute {E : EV} (hsd : E.2.2.2 = 1) (l : Launch) : AllOK E l 4 "FreeLancesModel" prog_13_method_50_code 7 (some .int) outI (cK_statute) := by
  refine ak (ok_iload_n (k := 1) rfl (by decide +kernel)) ?_
  refine ak (ok_iconst (n := 0) (by decide) (by decide +kernel)) ?_
  refine ak (ok_iconst (n := 3) (by decide) (by decide +kernel)) ?_
  refine ak (ok_invS (kK_in hsd l) iK_in tw1330 (by decide) tw1329 (by decide +kernel)) ?_
  refine ak (ok_if_eq (off := 10) (by decide) (by decide +kernel)) ?_
  refine ak (ok_iload_n (k := 2) rfl (by decide +kernel)) ?_
  refine ak (ok_invS (kK_isDay hsd l) iK_isDay tw1475 (by decide) tw1474 (by decide +kernel)) ?_
  refine ak (ok_if_ne (off := 9) (by decide) (by decide +kernel)) ?_
  refine ak (ok_aload_n (k := 0) rfl (by decide +kernel)) ?_
  refine ak (ok_iconst (n := 1) (by decide) (by decide +kernel)) ?_
  refine ak (ok_invV (r := 40) (kK_finds hsd l) qK_finds ck11 kd40 iK_finds tw1334 tw37 (by decide) tw1332 (by decide +kernel)) ?_
  refine ak (ok_ireturn rfl (by decide +kernel)) ?_
  refine ak (ok_aload_n (k := 0) rfl (by decide +kernel)) ?_
  refine ak (ok_get (k := 0) ck11 kd40 (by decide) (fun _ _ _ => rfl) (vf_40_0 hsd) tw1242 (by decide +kernel)) ?_
  refine ak (ok_iconst (n := 4) (by decide) (by decide +kernel)) ?_
  refine ak (ok_iald kd41 (by decide) (by decide +kernel)) ?_
  refine ak (ok_istore_n (k := 3) rfl (by decide) (by decide +kernel)) ?_
  refine ak (ok_iload_n (k := 3) rfl (by decide +kernel)) ?_
  refine ak (ok_bipush (n := 12) (by decide) (by decide +kernel)) ?_
  refine ak (ok_icmp_ne (off := 9) (by decide) (by decide +kernel)) ?_
  refine ak (ok_aload_n (k := 0) rfl (by decide +kernel)) ?_
  refine ak (ok_iconst (n := 4) (by decide) (by decide +kernel)) ?_
  refine ak (ok_invV (r := 40) (kK_finds hsd l) qK_finds ck11 kd40 iK_finds tw1334 tw37 (by decide) tw1332 (by decide +kernel)) ?_
  refine ak (ok_ireturn rfl (by decide +kernel)) ?_
  refine ak (ok_aload_n (k := 0) rfl (by decide +kernel)) ?_
  refine ak (ok_iload_n (k := 1) rfl (by decide +kernel)) ?_
  refine ak (ok_invV (r := 40) (kK_reads hsd l) qK_reads ck11 kd40 iK_reads tw1479 tw56 (by decide) tw1477 (by decide +kernel)) ?_
  refine ak (ok_istore (by decide) (by decide +kernel)) ?_
  refine ak (ok_aload_n (k := 0) rfl (by decide +kernel)) ?_
  refine ak (ok_get (k := 0) ck11 kd40 (by decide) (fun _ _ _ => rfl) (vf_40_0 hsd) tw1242 (by decide +kernel)) ?_
  refine ak (ok_bipush (n := 7) (by decide) (by decide +kernel)) ?_
  refine ak (ok_iconst (n := 0) (by decide) (by decide +kernel)) ?_
  refine ak (ok_iast kd41 (by decide) (by decide) (by decide +kernel)) ?_
  refine ak (ok_iload (by decide +kernel)) ?_
  refine ak (ok_if_ne (off := 11) (by decide) (by decide +kernel)) ?_
  refine ak (ok_bipush (n := (-10)) (by decide) (by decide +kernel)) ?_
  refine ak (ok_aload_n (k := 0) rfl (by decide +kernel)) ?_
  refine ak (ok_get (k := 12) ck11 kd40 (by decide) (fun _ _ _ => rfl) (fun _ _ _ _ _ => trivial) tw1254 (by decide +kernel)) ?_
  refine ak (ok_isub (by decide +kernel)) ?_
  refine ak (ok_ireturn rfl (by decide +kernel)) ?_
  refine ak (ok_sipush (n := 420) (by decide) (by decide +kernel)) ?_
  refine ak (ok_bipush (n := 53) (by decide) (by decide +kernel)) ?_
  refine ak (ok_iload_n (k := 3) rfl (by decide +kernel)) ?_
  refine ak (ok_imul (by decide +kernel)) ?_
  refine ak (ok_iadd (by decide +kernel)) ?_
  refine ak (ok_istore (by decide) (by decide +kernel)) ?_
  refine ak (ok_aload_n (k := 0) rfl (by decide +kernel)) ?_
  refine ak (ok_get (k := 0) ck11 kd40 (by decide) (fun _ _ _ => rfl) (vf_40_0 hsd) tw1242 (by decide +kernel)) ?_
  refine ak (ok_iconst (n := 4) (by decide) (by decide +kernel)) ?_
  refine ak (ok_dup2 (by decide +kernel)) ?_
  refine ak (ok_iald kd41 (by decide) (by decide +kernel)) ?_
  refine ak (ok_iconst (n := 1) (by decide) (by decide +kernel)) ?_
  refine ak (ok_iadd (by decide +kernel)) ?_
  refine ak (ok_iast kd41 (by decide) (by decide) (by decide +kernel)) ?_
  refine ak (ok_aload_n (k := 0) rfl (by decide +kernel)) ?_
  refine ak (ok_get (k := 0) ck11 kd40 (by decide) (fun _ _ _ => rfl) (vf_40_0 hsd) tw1242 (by decide +kernel)) ?_
  refine ak (ok_iload (by decide +kernel)) ?_
  refine ak (ok_iload_n (k := 1) rfl (by decide +kernel)) ?_
  refine ak (ok_iast kd41 (by decide) (by decide) (by decide +kernel)) ?_
  refine ak (ok_aload_n (k := 0) rfl (by decide +kernel)) ?_
  refine ak (ok_get (k := 0) ck11 kd40 (by decide) (fun _ _ _ => rfl) (vf_40_0 hsd) tw1242 (by decide +kernel)) ?_
  refine ak (ok_iload (by decide +kernel)) ?_
  refine ak (ok_iconst (n := 1) (by decide) (by decide +kernel)) ?_
  refine ak (ok_iadd (by decide +kernel)) ?_
  refine ak (ok_iload_n (k := 2) rfl (by decide +kernel)) ?_
  refine ak (ok_iast kd41 (by decide) (by decide) (by decide +kernel)) ?_
  refine ak (ok_aload_n (k := 0) rfl (by decide +kernel)) ?_
  refine ak (ok_get (k := 0) ck11 kd40 (by decide) (fun _ _ _ => rfl) (vf_40_0 hsd) tw1242 (by decide +kernel)) ?_
  refine ak (ok_iload (by decide +kernel)) ?_
  refine ak (ok_iconst (n := 2) (by decide) (by decide +kernel)) ?_
  refine ak (ok_iadd (by decide +kernel)) ?_
  refine ak (ok_aload_n (k := 0) rfl (by decide +kernel)) ?_
  refine ak (ok_get (k := 10) ck11 kd40 (by decide) (fun _ _ _ => rfl) (fun _ _ _ _ _ => trivial) tw1252 (by decide +kernel)) ?_
  refine ak (ok_iast kd41 (by decide) (by decide) (by decide +kernel)) ?_
  refine ak (ok_iconst (n := 0) (by decide) (by decide +kernel)) ?_
  refine ak (ok_istore (by decide) (by decide +kernel)) ?_
  refine ak (ok_iload (by decide +kernel)) ?_
  refine ak (ok_aload_n (k := 0) rfl (by decide +kernel)) ?_
  refine ak (ok_get (k := 10) ck11 kd40 (by decide) (fun _ _ _ => rfl) (fun _ _ _ _ _ => trivial) tw1252 (by decide +kernel)) ?_
  refine ak (ok_icmp_ge (off := 28) (by decide) (by decide +kernel)) ?_
  refine ak (ok_aload_n (k := 0) rfl (by decide +kernel)) ?_
  refine ak (ok_get (k := 0) ck11 kd40 (by decide) (fun _ _ _ => rfl) (vf_40_0 hsd) tw1242 (by decide +kernel)) ?_
  refine ak (ok_iload (by decide +kernel)) ?_
  refine ak (ok_iconst (n := 3) (by decide) (by decide +kernel)) ?_
  refine ak (ok_iadd (by decide +kernel)) ?_
  refine ak (ok_iload (by decide +kernel)) ?_
  refine ak (ok_iadd (by decide +kernel)) ?_
  refine ak (ok_aload_n (k := 0) rfl (by decide +kernel)) ?_
  refine ak (ok_get (k := 6) ck11 kd40 (by decide) (fun _ _ _ => rfl) (vf_40_6 hsd) tw1248 (by decide +kernel)) ?_
  refine ak (ok_iload (by decide +kernel)) ?_
  refine ak (ok_iald kd47 (by decide) (by decide +kernel)) ?_
  refine ak (ok_iast kd41 (by decide) (by decide) (by decide +kernel)) ?_
  refine ak (ok_iinc (n := 1) (by decide) (by decide) (by decide +kernel)) ?_
  refine ak (ok_goto (off := (-31)) (by decide) (by decide +kernel)) ?_
  refine ak (ok_iload_n (k := 3) rfl (by decide +kernel)) ?_
  refine ak (ok_ireturn rfl (by decide +kernel)) ?_
  exact trivial
def KK_statute_123 (j123 : Int32 → Int32 → Int32 → Mem → Option (Int32 × Mem)) : Jm (Int32 × Mem) := fun t als st M =>
  if t = 123 then (match als, st with
  | [.inr (.inr (.inl (al0, bl0, cl0))), _, _, .inl x3, _, .inl x5, .inl x6], [] => if al0 = 40 ∧ bl0 = 0 ∧ cl0 = 0 then j123 x3 x5 x6 M else none
  | _, _ => none) else
  none
set_option maxRecDepth 1000000 in
theorem eK_statute_123 (j123 : Int32 → Int32 → Int32 → Mem → Option (Int32 × Mem)) (x3 : Int32) (x5 : Int32) (x6 : Int32) (M : Mem) (u1 u2 u4 : AV) : run (cK_statute) (KK_statute_123 j123) rtI 400 (seek (cK_statute) 123) [aR (40, 0, 0), u1, u2, aI x3, u4, aI x5, aI x6] [] M = mK_statute_123b j123 x3 x5 x6 M := id rfl
theorem lK_statute_123 {E : EV} {l : Launch} {p : Program} {e : Env} {s : State} {m : MethodId} {args : Array Value} {below : List Frame} {meth : Method} {c : Code} (A : AllOK E l 4 "FreeLancesModel" prog_13_method_50_code 7 (some .int) outI (cK_statute)) (C : Cx E p s m args meth c "FreeLancesModel" prog_13_method_50_code 7 (some .int)) : ∀ (n : Nat), ∀ (x3 : Int32) (x5 : Int32) (x6 : Int32) (M : Mem) (res : (Int32 × Mem)), mK_statute_123 n x3 x5 x6 M = some res → ∀ (u1 u2 u4 : AV), Wm E p l e 4 s m args below meth c 7 123 [aR (40, 0, 0), u1, u2, aI x3, u4, aI x5, aI x6] [] M (outI res).1 (outI res).2 := by
  intro n
  induction n with
  | zero => intro _ _ _ M res h; cases h
  | succ n ih =>
    intro x3 x5 x6 M res h u1 u2 u4
    refine run_at C A rfl hrtI (n := 400) ((eK_statute_123 (mK_statute_123 n) x3 x5 x6 M u1 u2 u4).trans h) ?_
    intro t als st M hk
    unfold KK_statute_123 at hk
    split at hk
    · rename_i ht
      subst ht
      split at hk
      · split at hk
        · rename_i hc
          obtain ⟨rfl, rfl, rfl⟩ := hc
          exact ih _ _ _ _ _ hk _ _ _
        · cases hk
      · cases hk
    cases hk
def KK_statute (j123 : Int32 → Int32 → Int32 → Mem → Option (Int32 × Mem)) : Jm (Int32 × Mem) := fun t als st M =>
  if t = 123 then (match als, st with
  | [.inr (.inr (.inl (al0, bl0, cl0))), _, _, .inl x3, _, .inl x5, .inl x6], [] => if al0 = 40 ∧ bl0 = 0 ∧ cl0 = 0 then j123 x3 x5 x6 M else none
  | _, _ => none) else
  none
set_option maxRecDepth 1000000 in
theorem eK_statute (j123 : Int32 → Int32 → Int32 → Mem → Option (Int32 × Mem)) (x1 : Int32) (x2 : Int32) (M : Mem) : run (cK_statute) (KK_statute j123) rtI 400 (seek (cK_statute) 0) [aR (40, 0, 0), aI x1, aI x2, aU, aU, aU, aU] [] M = mK_statuteb j123 x1 x2 M := id rfl
theorem lK_statute {E : EV} {l : Launch} {p : Program} {e : Env} {s : State} {m : MethodId} {args : Array Value} {below : List Frame} {meth : Method} {c : Code} (A : AllOK E l 4 "FreeLancesModel" prog_13_method_50_code 7 (some .int) outI (cK_statute)) (C : Cx E p s m args meth c "FreeLancesModel" prog_13_method_50_code 7 (some .int)) : ∀ (x1 : Int32) (x2 : Int32) (M : Mem) (res : (Int32 × Mem)), mK_statute x1 x2 M = some res → Wm E p l e 4 s m args below meth c 7 0 [aR (40, 0, 0), aI x1, aI x2, aU, aU, aU, aU] [] M (outI res).1 (outI res).2 := by
  intro x1 x2 M res h
  refine run_at C A rfl hrtI (n := 400) ((eK_statute (mK_statute_123 fuel) x1 x2 M).trans h) ?_
  intro t als st M hk
  unfold KK_statute at hk
  split at hk
  · rename_i ht
    subst ht
    split at hk
    · split at hk
      · rename_i hc
        obtain ⟨rfl, rfl, rfl⟩ := hc
        exact lK_statute_123 A C _ _ _ _ _ _ hk _ _ _
      · cases hk
    · cases hk
  cases hk
def dK_statute {β : Type} : Den β := fun as M k => match as with
  | [.inr (.inr (.inl (al0, bl0, cl0))), .inl x1, .inl x2] => if al0 = 40 ∧ bl0 = 0 ∧ cl0 = 0 then (mK_statute x1 x2 M).bind fun q => k (aI q.1) q.2 else none
  | _ => none
theorem wK_statute {E : EV} (hsd : E.2.2.2 = 1) (l : Launch) (x1 : Int32) (x2 : Int32) (M : Mem) (q : (Int32 × Mem)) (hq : mK_statute x1 x2 M = some q) : Con E l 4 yK_statute prog_13_method_50_code 7 (some .int) [aR (40, 0, 0), aI x1, aI x2] M (outI q).1 (outI q).2 := by
  refine con_of iK_statute (Nat.le_of_ble_eq_true rfl) ?_
  intro p e s m args below meth c C
  exact lK_statute (oK_statute hsd l) C x1 x2 M _ hq
theorem kK_statute {E : EV} (hsd : E.2.2.2 = 1) (l : Launch) {β : Type} : DenOK E l 4 yK_statute prog_13_method_50_code 7 (some .int) true (dK_statute (β := β)) := by
  intro as M k res h
  unfold dK_statute at h
  split at h
  ·
    split at h
    · rename_i hc
      obtain ⟨rfl, rfl, rfl⟩ := hc
      obtain ⟨q, hq, hk⟩ := Option.bind_eq_some_iff.mp h
      exact ⟨aI q.1, q.2, hk, rfl, wK_statute hsd l _ _ M q hq⟩
    · cases h
  · cases h
theorem qK_statute {β : Type} : RecOK 40 (dK_statute (β := β)) := by
  intro as M k res h
  unfold dK_statute at h
  split at h
  ·
    split at h
    · rename_i hc
      obtain ⟨rfl, rfl, rfl⟩ := hc
      exact ⟨_, _, _, rfl⟩
    · cases h
  · cases h
/-! ===== FreeLancesModel.force(II)I ===== -/
abbrev yK_force : MethodName := ⟨"FreeLancesModel", "force", "(II)I"⟩
theorem iK_force : MI yK_force prog_13_method_52_code 4 (some .int) 2 := ⟨tw1521, tw108, ⟨by decide, by decide⟩, by decide +kernel, by decide, by decide⟩
def cK_force : List (Ent (Int32 × Mem)) := [(false, 0, 1, sLdI 1),
  (false, 1, 1, sC 0),
  (false, 2, 1, sC 3),
  (false, 3, 3, sInv 3 true dK_in),
  (false, 6, 3, sIfEq 16),
  (false, 9, 1, sLdI 2),
  (false, 10, 3, sInv 1 true dK_isDay),
  (false, 13, 3, sIfNe 22),
  (false, 16, 1, sLdA 0),
  (false, 17, 1, sC 1),
  (false, 18, 3, sInv 2 true dK_finds),
  (false, 21, 1, sRetI),
  (false, 22, 1, sLdA 0),
  (false, 23, 1, sLdI 1),
  (false, 24, 1, sLdI 2),
  (false, 25, 3, sInv 3 true dK_inForce),
  (false, 28, 1, sStI 3),
  (false, 29, 1, sLdI 3),
  (false, 30, 3, sIfGe 41),
  (false, 33, 1, sLdA 0),
  (false, 34, 1, sC 2),
  (false, 35, 3, sInv 2 true dK_finds),
  (false, 38, 3, sGoto 42),
  (false, 41, 1, sLdI 3),
  (false, 42, 1, sRetI)]
theorem oK_force {E : EV} (hsd : E.2.2.2 = 1) (l : Launch) : AllOK E l 3 "FreeLancesModel" prog_13_method_52_code 4 (some .int) outI (cK_force) := by
  refine ak (ok_iload_n (k := 1) rfl (by decide +kernel)) ?_
  refine ak (ok_iconst (n := 0) (by decide) (by decide +kernel)) ?_
  refine ak (ok_iconst (n := 3) (by decide) (by decide +kernel)) ?_
  refine ak (ok_invS (kK_in hsd l) iK_in tw1330 (by decide) tw1329 (by decide +kernel)) ?_
  refine ak (ok_if_eq (off := 10) (by decide) (by decide +kernel)) ?_
  refine ak (ok_iload_n (k := 2) rfl (by decide +kernel)) ?_
  refine ak (ok_invS (kK_isDay hsd l) iK_isDay tw1475 (by decide) tw1474 (by decide +kernel)) ?_
  refine ak (ok_if_ne (off := 9) (by decide) (by decide +kernel)) ?_
  refine ak (ok_aload_n (k := 0) rfl (by decide +kernel)) ?_
  refine ak (ok_iconst (n := 1) (by decide) (by decide +kernel)) ?_
  refine ak (ok_invV (r := 40) (kK_finds hsd l) qK_finds ck11 kd40 iK_finds tw1334 tw37 (by decide) tw1332 (by decide +kernel)) ?_
  refine ak (ok_ireturn rfl (by decide +kernel)) ?_
  refine ak (ok_aload_n (k := 0) rfl (by decide +kernel)) ?_
  refine ak (ok_iload_n (k := 1) rfl (by decide +kernel)) ?_
  refine ak (ok_iload_n (k := 2) rfl (by decide +kernel)) ?_
  refine ak (ok_invV (r := 40) (kK_inForce hsd l) qK_inForce ck11 kd40 iK_inForce tw1448 tw53 (by decide) tw1446 (by decide +kernel)) ?_
  refine ak (ok_istore_n (k := 3) rfl (by decide) (by decide +kernel)) ?_
  refine ak (ok_iload_n (k := 3) rfl (by decide +kernel)) ?_
  refine ak (ok_if_ge (off := 11) (by decide) (by decide +kernel)) ?_
  refine ak (ok_aload_n (k := 0) rfl (by decide +kernel)) ?_
  refine ak (ok_iconst (n := 2) (by decide) (by decide +kernel)) ?_
  refine ak (ok_invV (r := 40) (kK_finds hsd l) qK_finds ck11 kd40 iK_finds tw1334 tw37 (by decide) tw1332 (by decide +kernel)) ?_
  refine ak (ok_goto (off := 4) (by decide) (by decide +kernel)) ?_
  refine ak (ok_iload_n (k := 3) rfl (by decide +kernel)) ?_
  refine ak (ok_ireturn rfl (by decide +kernel)) ?_
  exact trivial
set_option maxRecDepth 1000000 in
theorem eK_force (x1 : Int32) (x2 : Int32) (M : Mem) : run (cK_force) (fun _ _ _ _ => none) rtI 400 (seek (cK_force) 0) [aR (40, 0, 0), aI x1, aI x2, aU] [] M = mK_force x1 x2 M := id rfl
theorem lK_force {E : EV} {l : Launch} {p : Program} {e : Env} {s : State} {m : MethodId} {args : Array Value} {below : List Frame} {meth : Method} {c : Code} (A : AllOK E l 3 "FreeLancesModel" prog_13_method_52_code 4 (some .int) outI (cK_force)) (C : Cx E p s m args meth c "FreeLancesModel" prog_13_method_52_code 4 (some .int)) : ∀ (x1 : Int32) (x2 : Int32) (M : Mem) (res : (Int32 × Mem)), mK_force x1 x2 M = some res → Wm E p l e 3 s m args below meth c 4 0 [aR (40, 0, 0), aI x1, aI x2, aU] [] M (outI res).1 (outI res).2 := by
  intro x1 x2 M res h
  refine run_at C A rfl hrtI (n := 400) ((eK_force x1 x2 M).trans h) ?_
  intro t als st M hk; cases hk
def dK_force {β : Type} : Den β := fun as M k => match as with
  | [.inr (.inr (.inl (al0, bl0, cl0))), .inl x1, .inl x2] => if al0 = 40 ∧ bl0 = 0 ∧ cl0 = 0 then (mK_force x1 x2 M).bind fun q => k (aI q.1) q.2 else none
  | _ => none
theorem wK_force {E : EV} (hsd : E.2.2.2 = 1) (l : Launch) (x1 : Int32) (x2 : Int32) (M : Mem) (q : (Int32 × Mem)) (hq : mK_force x1 x2 M = some q) : Con E l 3 yK_force prog_13_method_52_code 4 (some .int) [aR (40, 0, 0), aI x1, aI x2] M (outI q).1 (outI q).2 := by
  refine con_of iK_force (Nat.le_of_ble_eq_true rfl) ?_
  intro p e s m args below meth c C
  exact lK_force (oK_force hsd l) C x1 x2 M _ hq
theorem kK_force {E : EV} (hsd : E.2.2.2 = 1) (l : Launch) {β : Type} : DenOK E l 3 yK_force prog_13_method_52_code 4 (some .int) true (dK_force (β := β)) := by
  intro as M k res h
  unfold dK_force at h
  split at h
  ·
    split at h
    · rename_i hc
      obtain ⟨rfl, rfl, rfl⟩ := hc
      obtain ⟨q, hq, hk⟩ := Option.bind_eq_some_iff.mp h
      exact ⟨aI q.1, q.2, hk, rfl, wK_force hsd l _ _ M q hq⟩
    · cases h
  · cases h
theorem qK_force {β : Type} : RecOK 40 (dK_force (β := β)) := by
  intro as M k res h
  unfold dK_force at h
  split at h
  ·
    split at h
    · rename_i hc
      obtain ⟨rfl, rfl, rfl⟩ := hc
      exact ⟨_, _, _, rfl⟩
    · cases h
  · cases h
/-! ===== FreeLancesModel.says(IIII)I ===== -/
abbrev yK_says : MethodName := ⟨"FreeLancesModel", "says", "(IIII)I"⟩
theorem iK_says : MI yK_says prog_13_method_55_code 5 (some .int) 4 := ⟨tw1525, tw108, ⟨by decide, by decide⟩, by decide +kernel, by decide, by decide⟩
def cK_says : List (Ent (Int32 × Mem)) := [(false, 0, 1, sLdI 1),
  (false, 1, 1, sC 0),
  (false, 2, 1, sLdA 0),
  (false, 3, 3, sGet 40 (fun w i M => aR (41, 0, 0))),
  (false, 6, 1, sC 4),
  (false, 7, 1, sIald 41 1502),
  (false, 8, 1, sC 1),
  (false, 9, 1, sBin (fun x y => x - y)),
  (false, 10, 3, sInv 3 true dK_in),
  (false, 13, 3, sIfEq 28),
  (false, 16, 1, sLdA 0),
  (false, 17, 1, sLdI 1),
  (false, 18, 1, sLdI 2),
  (false, 19, 1, sLdI 3),
  (false, 20, 2, sLdI 4),
  (false, 22, 3, sInv 5 true dK_comesTo),
  (false, 25, 3, sGoto 33),
  (false, 28, 1, sLdA 0),
  (false, 29, 1, sC 1),
  (false, 30, 3, sInv 2 true dK_finds),
  (false, 33, 1, sRetI)]
theorem oK_says {E : EV} (hsd : E.2.2.2 = 1) (l : Launch) : AllOK E l 3 "FreeLancesModel" prog_13_method_55_code 5 (some .int) outI (cK_says) := by
  refine ak (ok_iload_n (k := 1) rfl (by decide +kernel)) ?_
  refine ak (ok_iconst (n := 0) (by decide) (by decide +kernel)) ?_
  refine ak (ok_aload_n (k := 0) rfl (by decide +kernel)) ?_
  refine ak (ok_get (k := 0) ck11 kd40 (by decide) (fun _ _ _ => rfl) (vf_40_0 hsd) tw1242 (by decide +kernel)) ?_
  refine ak (ok_iconst (n := 4) (by decide) (by decide +kernel)) ?_
  refine ak (ok_iald kd41 (by decide) (by decide +kernel)) ?_
  refine ak (ok_iconst (n := 1) (by decide) (by decide +kernel)) ?_
  refine ak (ok_isub (by decide +kernel)) ?_
  refine ak (ok_invS (kK_in hsd l) iK_in tw1330 (by decide) tw1329 (by decide +kernel)) ?_
  refine ak (ok_if_eq (off := 15) (by decide) (by decide +kernel)) ?_
  refine ak (ok_aload_n (k := 0) rfl (by decide +kernel)) ?_
  refine ak (ok_iload_n (k := 1) rfl (by decide +kernel)) ?_
  refine ak (ok_iload_n (k := 2) rfl (by decide +kernel)) ?_
  refine ak (ok_iload_n (k := 3) rfl (by decide +kernel)) ?_
  refine ak (ok_iload (by decide +kernel)) ?_
  refine ak (ok_invV (r := 40) (kK_comesTo hsd l) qK_comesTo ck11 kd40 iK_comesTo tw1452 tw54 (by decide) tw1450 (by decide +kernel)) ?_
  refine ak (ok_goto (off := 8) (by decide) (by decide +kernel)) ?_
  refine ak (ok_aload_n (k := 0) rfl (by decide +kernel)) ?_
  refine ak (ok_iconst (n := 1) (by decide) (by decide +kernel)) ?_
  refine ak (ok_invV (r := 40) (kK_finds hsd l) qK_finds ck11 kd40 iK_finds tw1334 tw37 (by decide) tw1332 (by decide +kernel)) ?_
  refine ak (ok_ireturn rfl (by decide +kernel)) ?_
  exact trivial
set_option maxRecDepth 1000000 in
theorem eK_says (x1 : Int32) (x2 : Int32) (x3 : Int32) (x4 : Int32) (M : Mem) : run (cK_says) (fun _ _ _ _ => none) rtI 400 (seek (cK_says) 0) [aR (40, 0, 0), aI x1, aI x2, aI x3, aI x4] [] M = mK_says x1 x2 x3 x4 M := id rfl
theorem lK_says {E : EV} {l : Launch} {p : Program} {e : Env} {s : State} {m : MethodId} {args : Array Value} {below : List Frame} {meth : Method} {c : Code} (A : AllOK E l 3 "FreeLancesModel" prog_13_method_55_code 5 (some .int) outI (cK_says)) (C : Cx E p s m args meth c "FreeLancesModel" prog_13_method_55_code 5 (some .int)) : ∀ (x1 : Int32) (x2 : Int32) (x3 : Int32) (x4 : Int32) (M : Mem) (res : (Int32 × Mem)), mK_says x1 x2 x3 x4 M = some res → Wm E p l e 3 s m args below meth c 5 0 [aR (40, 0, 0), aI x1, aI x2, aI x3, aI x4] [] M (outI res).1 (outI res).2 := by
  intro x1 x2 x3 x4 M res h
  refine run_at C A rfl hrtI (n := 400) ((eK_says x1 x2 x3 x4 M).trans h) ?_
  intro t als st M hk; cases hk
def dK_says {β : Type} : Den β := fun as M k => match as with
  | [.inr (.inr (.inl (al0, bl0, cl0))), .inl x1, .inl x2, .inl x3, .inl x4] => if al0 = 40 ∧ bl0 = 0 ∧ cl0 = 0 then (mK_says x1 x2 x3 x4 M).bind fun q => k (aI q.1) q.2 else none
  | _ => none
theorem wK_says {E : EV} (hsd : E.2.2.2 = 1) (l : Launch) (x1 : Int32) (x2 : Int32) (x3 : Int32) (x4 : Int32) (M : Mem) (q : (Int32 × Mem)) (hq : mK_says x1 x2 x3 x4 M = some q) : Con E l 3 yK_says prog_13_method_55_code 5 (some .int) [aR (40, 0, 0), aI x1, aI x2, aI x3, aI x4] M (outI q).1 (outI q).2 := by
  refine con_of iK_says (Nat.le_of_ble_eq_true rfl) ?_
  intro p e s m args below meth c C
  exact lK_says (oK_says hsd l) C x1 x2 x3 x4 M _ hq
theorem kK_says {E : EV} (hsd : E.2.2.2 = 1) (l : Launch) {β : Type} : DenOK E l 3 yK_says prog_13_method_55_code 5 (some .int) true (dK_says (β := β)) := by
  intro as M k res h
  unfold dK_says at h
  split at h
  ·
    split at h
    · rename_i hc
      obtain ⟨rfl, rfl, rfl⟩ := hc
      obtain ⟨q, hq, hk⟩ := Option.bind_eq_some_iff.mp h
      exact ⟨aI q.1, q.2, hk, rfl, wK_says hsd l _ _ _ _ M q hq⟩
    · cases h
  · cases h
theorem qK_says {β : Type} : RecOK 40 (dK_says (β := β)) := by
  intro as M k res h
  unfold dK_says at h
  split at h
  ·
    split at h
    · rename_i hc
      obtain ⟨rfl, rfl, rfl⟩ := hc
      exact ⟨_, _, _, rfl⟩
    · cases h
  · cases h
/-! ===== FreeLancesModel.areDays(II)Z ===== -/
abbrev yK_areDays : MethodName := ⟨"FreeLancesModel", "areDays", "(II)Z"⟩
theorem iK_areDays : MI yK_areDays prog_13_method_56_code 2 (some .boolean) 2 := ⟨tw1532, tw108, ⟨by decide, by decide⟩, by decide +kernel, by decide, by decide⟩
def cK_areDays : List (Ent (Int32 × Mem)) := [(false, 0, 1, sLdI 0),
  (false, 1, 1, sC 0),
  (false, 2, 3, sC 3000),
  (false, 5, 3, sInv 3 true dK_in),
  (false, 8, 3, sIfEq 26),
  (false, 11, 1, sLdI 1),
  (false, 12, 1, sLdI 0),
  (false, 13, 3, sC 3000),
  (false, 16, 3, sInv 3 true dK_in),
  (false, 19, 3, sIfEq 26),
  (false, 22, 1, sC 1),
  (false, 23, 3, sGoto 27),
  (false, 26, 1, sC 0),
  (false, 27, 1, sRetZ)]
theorem oK_areDays {E : EV} (hsd : E.2.2.2 = 1) (l : Launch) : AllOK E l 2 "FreeLancesModel" prog_13_method_56_code 2 (some .boolean) outI (cK_areDays) := by
  refine ak (ok_iload_n (k := 0) rfl (by decide +kernel)) ?_
  refine ak (ok_iconst (n := 0) (by decide) (by decide +kernel)) ?_
  refine ak (ok_sipush (n := 3000) (by decide) (by decide +kernel)) ?_
  refine ak (ok_invS (kK_in hsd l) iK_in tw1330 (by decide) tw1329 (by decide +kernel)) ?_
  refine ak (ok_if_eq (off := 18) (by decide) (by decide +kernel)) ?_
  refine ak (ok_iload_n (k := 1) rfl (by decide +kernel)) ?_
  refine ak (ok_iload_n (k := 0) rfl (by decide +kernel)) ?_
  refine ak (ok_sipush (n := 3000) (by decide) (by decide +kernel)) ?_
  refine ak (ok_invS (kK_in hsd l) iK_in tw1330 (by decide) tw1329 (by decide +kernel)) ?_
  refine ak (ok_if_eq (off := 7) (by decide) (by decide +kernel)) ?_
  refine ak (ok_iconst (n := 1) (by decide) (by decide +kernel)) ?_
  refine ak (ok_goto (off := 4) (by decide) (by decide +kernel)) ?_
  refine ak (ok_iconst (n := 0) (by decide) (by decide +kernel)) ?_
  refine ak (ok_zreturn rfl (by decide +kernel)) ?_
  exact trivial
set_option maxRecDepth 1000000 in
theorem eK_areDays (x0 : Int32) (x1 : Int32) (M : Mem) : run (cK_areDays) (fun _ _ _ _ => none) rtI 400 (seek (cK_areDays) 0) [aI x0, aI x1] [] M = mK_areDays x0 x1 M := id rfl
theorem lK_areDays {E : EV} {l : Launch} {p : Program} {e : Env} {s : State} {m : MethodId} {args : Array Value} {below : List Frame} {meth : Method} {c : Code} (A : AllOK E l 2 "FreeLancesModel" prog_13_method_56_code 2 (some .boolean) outI (cK_areDays)) (C : Cx E p s m args meth c "FreeLancesModel" prog_13_method_56_code 2 (some .boolean)) : ∀ (x0 : Int32) (x1 : Int32) (M : Mem) (res : (Int32 × Mem)), mK_areDays x0 x1 M = some res → Wm E p l e 2 s m args below meth c 2 0 [aI x0, aI x1] [] M (outI res).1 (outI res).2 := by
  intro x0 x1 M res h
  refine run_at C A rfl hrtI (n := 400) ((eK_areDays x0 x1 M).trans h) ?_
  intro t als st M hk; cases hk
def dK_areDays {β : Type} : Den β := fun as M k => match as with
  | [.inl x0, .inl x1] => (mK_areDays x0 x1 M).bind fun q => k (aI q.1) q.2
  | _ => none
theorem wK_areDays {E : EV} (hsd : E.2.2.2 = 1) (l : Launch) (x0 : Int32) (x1 : Int32) (M : Mem) (q : (Int32 × Mem)) (hq : mK_areDays x0 x1 M = some q) : Con E l 2 yK_areDays prog_13_method_56_code 2 (some .boolean) [aI x0, aI x1] M (outI q).1 (outI q).2 := by
  refine con_of iK_areDays (Nat.le_of_ble_eq_true rfl) ?_
  intro p e s m args below meth c C
  exact lK_areDays (oK_areDays hsd l) C x0 x1 M _ hq
theorem kK_areDays {E : EV} (hsd : E.2.2.2 = 1) (l : Launch) {β : Type} : DenOK E l 2 yK_areDays prog_13_method_56_code 2 (some .boolean) true (dK_areDays (β := β)) := by
  intro as M k res h
  unfold dK_areDays at h
  split at h
  · obtain ⟨q, hq, hk⟩ := Option.bind_eq_some_iff.mp h
    exact ⟨aI q.1, q.2, hk, rfl, wK_areDays hsd l _ _ M q hq⟩
  · cases h
/-! ===== FreeLancesModel.isFull()Z ===== -/
abbrev yK_isFull : MethodName := ⟨"FreeLancesModel", "isFull", "()Z"⟩
theorem iK_isFull : MI yK_isFull prog_13_method_58_code 1 (some .boolean) 0 := ⟨tw1536, tw108, ⟨by decide, by decide⟩, by decide +kernel, by decide, by decide⟩
def cK_isFull : List (Ent (Int32 × Mem)) := [(false, 0, 1, sLdA 0),
  (false, 1, 3, sGet 40 (fun w i M => aR (41, 0, 0))),
  (false, 4, 1, sC 5),
  (false, 5, 1, sIald 41 1502),
  (false, 6, 2, sC 24),
  (false, 8, 3, sCmpNe 15),
  (false, 11, 1, sC 1),
  (false, 12, 3, sGoto 16),
  (false, 15, 1, sC 0),
  (false, 16, 1, sRetZ)]
theorem oK_isFull {E : EV} (hsd : E.2.2.2 = 1) (l : Launch) : AllOK E l 1 "FreeLancesModel" prog_13_method_58_code 1 (some .boolean) outI (cK_isFull) := by
  refine ak (ok_aload_n (k := 0) rfl (by decide +kernel)) ?_
  refine ak (ok_get (k := 0) ck11 kd40 (by decide) (fun _ _ _ => rfl) (vf_40_0 hsd) tw1242 (by decide +kernel)) ?_
  refine ak (ok_iconst (n := 5) (by decide) (by decide +kernel)) ?_
  refine ak (ok_iald kd41 (by decide) (by decide +kernel)) ?_
  refine ak (ok_bipush (n := 24) (by decide) (by decide +kernel)) ?_
  refine ak (ok_icmp_ne (off := 7) (by decide) (by decide +kernel)) ?_
  refine ak (ok_iconst (n := 1) (by decide) (by decide +kernel)) ?_
  refine ak (ok_goto (off := 4) (by decide) (by decide +kernel)) ?_
  refine ak (ok_iconst (n := 0) (by decide) (by decide +kernel)) ?_
  refine ak (ok_zreturn rfl (by decide +kernel)) ?_
  exact trivial
set_option maxRecDepth 1000000 in
theorem eK_isFull (M : Mem) : run (cK_isFull) (fun _ _ _ _ => none) rtI 400 (seek (cK_isFull) 0) [aR (40, 0, 0)] [] M = mK_isFull M := id rfl
theorem lK_isFull {E : EV} {l : Launch} {p : Program} {e : Env} {s : State} {m : MethodId} {args : Array Value} {below : List Frame} {meth : Method} {c : Code} (A : AllOK E l 1 "FreeLancesModel" prog_13_method_58_code 1 (some .boolean) outI (cK_isFull)) (C : Cx E p s m args meth c "FreeLancesModel" prog_13_method_58_code 1 (some .boolean)) : ∀ (M : Mem) (res : (Int32 × Mem)), mK_isFull M = some res → Wm E p l e 1 s m args below meth c 1 0 [aR (40, 0, 0)] [] M (outI res).1 (outI res).2 := by
  intro M res h
  refine run_at C A rfl hrtI (n := 400) ((eK_isFull M).trans h) ?_
  intro t als st M hk; cases hk
def dK_isFull {β : Type} : Den β := fun as M k => match as with
  | [.inr (.inr (.inl (al0, bl0, cl0)))] => if al0 = 40 ∧ bl0 = 0 ∧ cl0 = 0 then (mK_isFull M).bind fun q => k (aI q.1) q.2 else none
  | _ => none
theorem wK_isFull {E : EV} (hsd : E.2.2.2 = 1) (l : Launch) (M : Mem) (q : (Int32 × Mem)) (hq : mK_isFull M = some q) : Con E l 1 yK_isFull prog_13_method_58_code 1 (some .boolean) [aR (40, 0, 0)] M (outI q).1 (outI q).2 := by
  refine con_of iK_isFull (Nat.le_of_ble_eq_true rfl) ?_
  intro p e s m args below meth c C
  exact lK_isFull (oK_isFull hsd l) C M _ hq
theorem kK_isFull {E : EV} (hsd : E.2.2.2 = 1) (l : Launch) {β : Type} : DenOK E l 1 yK_isFull prog_13_method_58_code 1 (some .boolean) true (dK_isFull (β := β)) := by
  intro as M k res h
  unfold dK_isFull at h
  split at h
  ·
    split at h
    · rename_i hc
      obtain ⟨rfl, rfl, rfl⟩ := hc
      obtain ⟨q, hq, hk⟩ := Option.bind_eq_some_iff.mp h
      exact ⟨aI q.1, q.2, hk, rfl, wK_isFull hsd l M q hq⟩
    · cases h
  · cases h
theorem qK_isFull {β : Type} : RecOK 40 (dK_isFull (β := β)) := by
  intro as M k res h
  unfold dK_isFull at h
  split at h
  ·
    split at h
    · rename_i hc
      obtain ⟨rfl, rfl, rfl⟩ := hc
      exact ⟨_, _, _, rfl⟩
    · cases h
  · cases h
/-! ===== FreeLancesModel.writes(III)V ===== -/
abbrev yK_writes : MethodName := ⟨"FreeLancesModel", "writes", "(III)V"⟩
theorem iK_writes : MI yK_writes prog_13_method_17_code 4 none 3 := ⟨tw1544, tw108, ⟨by decide, by decide⟩, by decide +kernel, by decide, by decide⟩
def cK_writes : List (Ent Mem) := [(false, 0, 1, sLdA 0),
  (false, 1, 3, sGet 40 (fun w i M => aR (41, 0, 0))),
  (false, 4, 3, sC 1056),
  (false, 7, 2, sC 14),
  (false, 9, 1, sLdI 1),
  (false, 10, 1, sBin (fun x y => x * y)),
  (false, 11, 1, sBin (fun x y => x + y)),
  (false, 12, 1, sLdI 2),
  (false, 13, 1, sBin (fun x y => x + y)),
  (false, 14, 1, sLdI 3),
  (false, 15, 1, sIast 41 1502),
  (false, 16, 1, sRetV)]
theorem oK_writes {E : EV} (hsd : E.2.2.2 = 1) (l : Launch) : AllOK E l 1 "FreeLancesModel" prog_13_method_17_code 4 none outV (cK_writes) := by
  refine ak (ok_aload_n (k := 0) rfl (by decide +kernel)) ?_
  refine ak (ok_get (k := 0) ck11 kd40 (by decide) (fun _ _ _ => rfl) (vf_40_0 hsd) tw1242 (by decide +kernel)) ?_
  refine ak (ok_sipush (n := 1056) (by decide) (by decide +kernel)) ?_
  refine ak (ok_bipush (n := 14) (by decide) (by decide +kernel)) ?_
  refine ak (ok_iload_n (k := 1) rfl (by decide +kernel)) ?_
  refine ak (ok_imul (by decide +kernel)) ?_
  refine ak (ok_iadd (by decide +kernel)) ?_
  refine ak (ok_iload_n (k := 2) rfl (by decide +kernel)) ?_
  refine ak (ok_iadd (by decide +kernel)) ?_
  refine ak (ok_iload_n (k := 3) rfl (by decide +kernel)) ?_
  refine ak (ok_iast kd41 (by decide) (by decide) (by decide +kernel)) ?_
  refine ak (ok_return rfl (by decide +kernel)) ?_
  exact trivial
set_option maxRecDepth 1000000 in
theorem eK_writes (x1 : Int32) (x2 : Int32) (x3 : Int32) (M : Mem) : run (cK_writes) (fun _ _ _ _ => none) rtV 400 (seek (cK_writes) 0) [aR (40, 0, 0), aI x1, aI x2, aI x3] [] M = mK_writes x1 x2 x3 M := id rfl
theorem lK_writes {E : EV} {l : Launch} {p : Program} {e : Env} {s : State} {m : MethodId} {args : Array Value} {below : List Frame} {meth : Method} {c : Code} (A : AllOK E l 1 "FreeLancesModel" prog_13_method_17_code 4 none outV (cK_writes)) (C : Cx E p s m args meth c "FreeLancesModel" prog_13_method_17_code 4 none) : ∀ (x1 : Int32) (x2 : Int32) (x3 : Int32) (M : Mem) (res : Mem), mK_writes x1 x2 x3 M = some res → Wm E p l e 1 s m args below meth c 4 0 [aR (40, 0, 0), aI x1, aI x2, aI x3] [] M (outV res).1 (outV res).2 := by
  intro x1 x2 x3 M res h
  refine run_at C A rfl hrtV (n := 400) ((eK_writes x1 x2 x3 M).trans h) ?_
  intro t als st M hk; cases hk
def dK_writes {β : Type} : Den β := fun as M k => match as with
  | [.inr (.inr (.inl (al0, bl0, cl0))), .inl x1, .inl x2, .inl x3] => if al0 = 40 ∧ bl0 = 0 ∧ cl0 = 0 then (mK_writes x1 x2 x3 M).bind fun q => k aU q else none
  | _ => none
theorem wK_writes {E : EV} (hsd : E.2.2.2 = 1) (l : Launch) (x1 : Int32) (x2 : Int32) (x3 : Int32) (M : Mem) (q : Mem) (hq : mK_writes x1 x2 x3 M = some q) : Con E l 1 yK_writes prog_13_method_17_code 4 none [aR (40, 0, 0), aI x1, aI x2, aI x3] M (outV q).1 (outV q).2 := by
  refine con_of iK_writes (Nat.le_of_ble_eq_true rfl) ?_
  intro p e s m args below meth c C
  exact lK_writes (oK_writes hsd l) C x1 x2 x3 M _ hq
theorem kK_writes {E : EV} (hsd : E.2.2.2 = 1) (l : Launch) {β : Type} : DenOK E l 1 yK_writes prog_13_method_17_code 4 none false (dK_writes (β := β)) := by
  intro as M k res h
  unfold dK_writes at h
  split at h
  ·
    split at h
    · rename_i hc
      obtain ⟨rfl, rfl, rfl⟩ := hc
      obtain ⟨q, hq, hk⟩ := Option.bind_eq_some_iff.mp h
      exact ⟨aU, q, hk, rfl, wK_writes hsd l _ _ _ M q hq⟩
    · cases h
  · cases h
theorem qK_writes {β : Type} : RecOK 40 (dK_writes (β := β)) := by
  intro as M k res h
  unfold dK_writes at h
  split at h
  ·
    split at h
    · rename_i hc
      obtain ⟨rfl, rfl, rfl⟩ := hc
      exact ⟨_, _, _, rfl⟩
    · cases h
  · cases h
/-! ===== FreeLancesModel.newBond(IIIIIIII)I ===== -/
abbrev yK_newBond : MethodName := ⟨"FreeLancesModel", "newBond", "(IIIIIIII)I"⟩
theorem iK_newBond : MI yK_newBond prog_13_method_57_code 10 (some .int) 8 := ⟨tw1540, tw108, ⟨by decide, by decide⟩, by decide +kernel, by decide, by decide⟩
def cK_newBond : List (Ent (Int32 × Mem)) := [(false, 0, 1, sLdA 0),
  (false, 1, 3, sGet 40 (fun w i M => aR (41, 0, 0))),
  (false, 4, 1, sC 5),
  (false, 5, 1, sIald 41 1502),
  (false, 6, 2, sStI 9),
  (false, 8, 1, sLdA 0),
  (false, 9, 3, sGet 40 (fun w i M => aR (41, 0, 0))),
  (false, 12, 1, sC 5),
  (false, 13, 1, sDup2),
  (false, 14, 1, sIald 41 1502),
  (false, 15, 1, sC 1),
  (false, 16, 1, sBin (fun x y => x + y)),
  (false, 17, 1, sIast 41 1502),
  (false, 18, 1, sLdA 0),
  (false, 19, 2, sLdI 9),
  (false, 21, 1, sC 0),
  (false, 22, 1, sLdI 1),
  (false, 23, 3, sInv 4 false dK_writes),
  (false, 26, 1, sLdA 0),
  (false, 27, 2, sLdI 9),
  (false, 29, 1, sC 1),
  (false, 30, 1, sLdI 2),
  (false, 31, 3, sInv 4 false dK_writes),
  (false, 34, 1, sLdA 0),
  (false, 35, 2, sLdI 9),
  (false, 37, 1, sC 2),
  (false, 38, 1, sLdI 3),
  (false, 39, 3, sInv 4 false dK_writes),
  (false, 42, 1, sLdA 0),
  (false, 43, 2, sLdI 9),
  (false, 45, 1, sC 3),
  (false, 46, 2, sLdI 4),
  (false, 48, 3, sInv 4 false dK_writes),
  (false, 51, 1, sLdA 0),
  (false, 52, 2, sLdI 9),
  (false, 54, 1, sC 4),
  (false, 55, 2, sLdI 5),
  (false, 57, 3, sInv 4 false dK_writes),
  (false, 60, 1, sLdA 0),
  (false, 61, 2, sLdI 9),
  (false, 63, 1, sC 5),
  (false, 64, 2, sLdI 6),
  (false, 66, 3, sInv 4 false dK_writes),
  (false, 69, 1, sLdA 0),
  (false, 70, 2, sLdI 9),
  (false, 72, 2, sC 6),
  (false, 74, 2, sLdI 7),
  (false, 76, 3, sInv 4 false dK_writes),
  (false, 79, 1, sLdA 0),
  (false, 80, 2, sLdI 9),
  (false, 82, 2, sC 7),
  (false, 84, 2, sLdI 8),
  (false, 86, 3, sInv 4 false dK_writes),
  (false, 89, 1, sLdA 0),
  (false, 90, 2, sLdI 9),
  (false, 92, 2, sC 8),
  (false, 94, 1, sC 0),
  (false, 95, 3, sInv 4 false dK_writes),
  (false, 98, 1, sLdA 0),
  (false, 99, 2, sLdI 9),
  (false, 101, 2, sC 9),
  (false, 103, 1, sC (-1)),
  (false, 104, 3, sInv 4 false dK_writes),
  (false, 107, 1, sLdA 0),
  (false, 108, 2, sLdI 9),
  (false, 110, 2, sC 10),
  (false, 112, 1, sC 0),
  (false, 113, 3, sInv 4 false dK_writes),
  (false, 116, 1, sLdA 0),
  (false, 117, 2, sLdI 9),
  (false, 119, 2, sC 11),
  (false, 121, 1, sC 0),
  (false, 122, 3, sInv 4 false dK_writes),
  (false, 125, 2, sLdI 9),
  (false, 127, 1, sRetI)]
theorem oK_newBond {E : EV} (hsd : E.2.2.2 = 1) (l : Launch) : AllOK E l 2 "FreeLancesModel" prog_13_method_57_code 10 (some .int) outI (cK_newBond) := by
  refine ak (ok_aload_n (k := 0) rfl (by decide +kernel)) ?_
  refine ak (ok_get (k := 0) ck11 kd40 (by decide) (fun _ _ _ => rfl) (vf_40_0 hsd) tw1242 (by decide +kernel)) ?_
  refine ak (ok_iconst (n := 5) (by decide) (by decide +kernel)) ?_
  refine ak (ok_iald kd41 (by decide) (by decide +kernel)) ?_
  refine ak (ok_istore (by decide) (by decide +kernel)) ?_
  refine ak (ok_aload_n (k := 0) rfl (by decide +kernel)) ?_
  refine ak (ok_get (k := 0) ck11 kd40 (by decide) (fun _ _ _ => rfl) (vf_40_0 hsd) tw1242 (by decide +kernel)) ?_
  refine ak (ok_iconst (n := 5) (by decide) (by decide +kernel)) ?_
  refine ak (ok_dup2 (by decide +kernel)) ?_
  refine ak (ok_iald kd41 (by decide) (by decide +kernel)) ?_
  refine ak (ok_iconst (n := 1) (by decide) (by decide +kernel)) ?_
  refine ak (ok_iadd (by decide +kernel)) ?_
  refine ak (ok_iast kd41 (by decide) (by decide) (by decide +kernel)) ?_
  refine ak (ok_aload_n (k := 0) rfl (by decide +kernel)) ?_
  refine ak (ok_iload (by decide +kernel)) ?_
  refine ak (ok_iconst (n := 0) (by decide) (by decide +kernel)) ?_
  refine ak (ok_iload_n (k := 1) rfl (by decide +kernel)) ?_
  refine ak (ok_invV (r := 40) (kK_writes hsd l) qK_writes ck11 kd40 iK_writes tw1543 tw66 (by decide) tw1541 (by decide +kernel)) ?_
  refine ak (ok_aload_n (k := 0) rfl (by decide +kernel)) ?_
  refine ak (ok_iload (by decide +kernel)) ?_
  refine ak (ok_iconst (n := 1) (by decide) (by decide +kernel)) ?_
  refine ak (ok_iload_n (k := 2) rfl (by decide +kernel)) ?_
  refine ak (ok_invV (r := 40) (kK_writes hsd l) qK_writes ck11 kd40 iK_writes tw1543 tw66 (by decide) tw1541 (by decide +kernel)) ?_
  refine ak (ok_aload_n (k := 0) rfl (by decide +kernel)) ?_
  refine ak (ok_iload (by decide +kernel)) ?_
  refine ak (ok_iconst (n := 2) (by decide) (by decide +kernel)) ?_
  refine ak (ok_iload_n (k := 3) rfl (by decide +kernel)) ?_
  refine ak (ok_invV (r := 40) (kK_writes hsd l) qK_writes ck11 kd40 iK_writes tw1543 tw66 (by decide) tw1541 (by decide +kernel)) ?_
  refine ak (ok_aload_n (k := 0) rfl (by decide +kernel)) ?_
  refine ak (ok_iload (by decide +kernel)) ?_
  refine ak (ok_iconst (n := 3) (by decide) (by decide +kernel)) ?_
  refine ak (ok_iload (by decide +kernel)) ?_
  refine ak (ok_invV (r := 40) (kK_writes hsd l) qK_writes ck11 kd40 iK_writes tw1543 tw66 (by decide) tw1541 (by decide +kernel)) ?_
  refine ak (ok_aload_n (k := 0) rfl (by decide +kernel)) ?_
  refine ak (ok_iload (by decide +kernel)) ?_
  refine ak (ok_iconst (n := 4) (by decide) (by decide +kernel)) ?_
  refine ak (ok_iload (by decide +kernel)) ?_
  refine ak (ok_invV (r := 40) (kK_writes hsd l) qK_writes ck11 kd40 iK_writes tw1543 tw66 (by decide) tw1541 (by decide +kernel)) ?_
  refine ak (ok_aload_n (k := 0) rfl (by decide +kernel)) ?_
  refine ak (ok_iload (by decide +kernel)) ?_
  refine ak (ok_iconst (n := 5) (by decide) (by decide +kernel)) ?_
  refine ak (ok_iload (by decide +kernel)) ?_
  refine ak (ok_invV (r := 40) (kK_writes hsd l) qK_writes ck11 kd40 iK_writes tw1543 tw66 (by decide) tw1541 (by decide +kernel)) ?_
  refine ak (ok_aload_n (k := 0) rfl (by decide +kernel)) ?_
  refine ak (ok_iload (by decide +kernel)) ?_
  refine ak (ok_bipush (n := 6) (by decide) (by decide +kernel)) ?_
  refine ak (ok_iload (by decide +kernel)) ?_
  refine ak (ok_invV (r := 40) (kK_writes hsd l) qK_writes ck11 kd40 iK_writes tw1543 tw66 (by decide) tw1541 (by decide +kernel)) ?_
  refine ak (ok_aload_n (k := 0) rfl (by decide +kernel)) ?_
  refine ak (ok_iload (by decide +kernel)) ?_
  refine ak (ok_bipush (n := 7) (by decide) (by decide +kernel)) ?_
  refine ak (ok_iload (by decide +kernel)) ?_
  refine ak (ok_invV (r := 40) (kK_writes hsd l) qK_writes ck11 kd40 iK_writes tw1543 tw66 (by decide) tw1541 (by decide +kernel)) ?_
  refine ak (ok_aload_n (k := 0) rfl (by decide +kernel)) ?_
  refine ak (ok_iload (by decide +kernel)) ?_
  refine ak (ok_bipush (n := 8) (by decide) (by decide +kernel)) ?_
  refine ak (ok_iconst (n := 0) (by decide) (by decide +kernel)) ?_
  refine ak (ok_invV (r := 40) (kK_writes hsd l) qK_writes ck11 kd40 iK_writes tw1543 tw66 (by decide) tw1541 (by decide +kernel)) ?_
  refine ak (ok_aload_n (k := 0) rfl (by decide +kernel)) ?_
  refine ak (ok_iload (by decide +kernel)) ?_
  refine ak (ok_bipush (n := 9) (by decide) (by decide +kernel)) ?_
  refine ak (ok_iconst (n := (-1)) (by decide) (by decide +kernel)) ?_
  refine ak (ok_invV (r := 40) (kK_writes hsd l) qK_writes ck11 kd40 iK_writes tw1543 tw66 (by decide) tw1541 (by decide +kernel)) ?_
  refine ak (ok_aload_n (k := 0) rfl (by decide +kernel)) ?_
  refine ak (ok_iload (by decide +kernel)) ?_
  refine ak (ok_bipush (n := 10) (by decide) (by decide +kernel)) ?_
  refine ak (ok_iconst (n := 0) (by decide) (by decide +kernel)) ?_
  refine ak (ok_invV (r := 40) (kK_writes hsd l) qK_writes ck11 kd40 iK_writes tw1543 tw66 (by decide) tw1541 (by decide +kernel)) ?_
  refine ak (ok_aload_n (k := 0) rfl (by decide +kernel)) ?_
  refine ak (ok_iload (by decide +kernel)) ?_
  refine ak (ok_bipush (n := 11) (by decide) (by decide +kernel)) ?_
  refine ak (ok_iconst (n := 0) (by decide) (by decide +kernel)) ?_
  refine ak (ok_invV (r := 40) (kK_writes hsd l) qK_writes ck11 kd40 iK_writes tw1543 tw66 (by decide) tw1541 (by decide +kernel)) ?_
  refine ak (ok_iload (by decide +kernel)) ?_
  refine ak (ok_ireturn rfl (by decide +kernel)) ?_
  exact trivial
set_option maxRecDepth 1000000 in
theorem eK_newBond (x1 : Int32) (x2 : Int32) (x3 : Int32) (x4 : Int32) (x5 : Int32) (x6 : Int32) (x7 : Int32) (x8 : Int32) (M : Mem) : run (cK_newBond) (fun _ _ _ _ => none) rtI 400 (seek (cK_newBond) 0) [aR (40, 0, 0), aI x1, aI x2, aI x3, aI x4, aI x5, aI x6, aI x7, aI x8, aU] [] M = mK_newBond x1 x2 x3 x4 x5 x6 x7 x8 M := id rfl
theorem lK_newBond {E : EV} {l : Launch} {p : Program} {e : Env} {s : State} {m : MethodId} {args : Array Value} {below : List Frame} {meth : Method} {c : Code} (A : AllOK E l 2 "FreeLancesModel" prog_13_method_57_code 10 (some .int) outI (cK_newBond)) (C : Cx E p s m args meth c "FreeLancesModel" prog_13_method_57_code 10 (some .int)) : ∀ (x1 : Int32) (x2 : Int32) (x3 : Int32) (x4 : Int32) (x5 : Int32) (x6 : Int32) (x7 : Int32) (x8 : Int32) (M : Mem) (res : (Int32 × Mem)), mK_newBond x1 x2 x3 x4 x5 x6 x7 x8 M = some res → Wm E p l e 2 s m args below meth c 10 0 [aR (40, 0, 0), aI x1, aI x2, aI x3, aI x4, aI x5, aI x6, aI x7, aI x8, aU] [] M (outI res).1 (outI res).2 := by
  intro x1 x2 x3 x4 x5 x6 x7 x8 M res h
  refine run_at C A rfl hrtI (n := 400) ((eK_newBond x1 x2 x3 x4 x5 x6 x7 x8 M).trans h) ?_
  intro t als st M hk; cases hk
def dK_newBond {β : Type} : Den β := fun as M k => match as with
  | [.inr (.inr (.inl (al0, bl0, cl0))), .inl x1, .inl x2, .inl x3, .inl x4, .inl x5, .inl x6, .inl x7, .inl x8] => if al0 = 40 ∧ bl0 = 0 ∧ cl0 = 0 then (mK_newBond x1 x2 x3 x4 x5 x6 x7 x8 M).bind fun q => k (aI q.1) q.2 else none
  | _ => none
theorem wK_newBond {E : EV} (hsd : E.2.2.2 = 1) (l : Launch) (x1 : Int32) (x2 : Int32) (x3 : Int32) (x4 : Int32) (x5 : Int32) (x6 : Int32) (x7 : Int32) (x8 : Int32) (M : Mem) (q : (Int32 × Mem)) (hq : mK_newBond x1 x2 x3 x4 x5 x6 x7 x8 M = some q) : Con E l 2 yK_newBond prog_13_method_57_code 10 (some .int) [aR (40, 0, 0), aI x1, aI x2, aI x3, aI x4, aI x5, aI x6, aI x7, aI x8] M (outI q).1 (outI q).2 := by
  refine con_of iK_newBond (Nat.le_of_ble_eq_true rfl) ?_
  intro p e s m args below meth c C
  exact lK_newBond (oK_newBond hsd l) C x1 x2 x3 x4 x5 x6 x7 x8 M _ hq
theorem kK_newBond {E : EV} (hsd : E.2.2.2 = 1) (l : Launch) {β : Type} : DenOK E l 2 yK_newBond prog_13_method_57_code 10 (some .int) true (dK_newBond (β := β)) := by
  intro as M k res h
  unfold dK_newBond at h
  split at h
  ·
    split at h
    · rename_i hc
      obtain ⟨rfl, rfl, rfl⟩ := hc
      obtain ⟨q, hq, hk⟩ := Option.bind_eq_some_iff.mp h
      exact ⟨aI q.1, q.2, hk, rfl, wK_newBond hsd l _ _ _ _ _ _ _ _ M q hq⟩
    · cases h
  · cases h
theorem qK_newBond {β : Type} : RecOK 40 (dK_newBond (β := β)) := by
  intro as M k res h
  unfold dK_newBond at h
  split at h
  ·
    split at h
    · rename_i hc
      obtain ⟨rfl, rfl, rfl⟩ := hc
      exact ⟨_, _, _, rfl⟩
    · cases h
  · cases h
/-! ===== FreeLancesModel.contract(IIII)I ===== -/
abbrev yK_contract : MethodName := ⟨"FreeLancesModel", "contract", "(IIII)I"⟩
theorem iK_contract : MI yK_contract prog_13_method_59_code 8 (some .int) 4 := ⟨tw1529, tw108, ⟨by decide, by decide⟩, by decide +kernel, by decide, by decide⟩
def cK_contract : List (Ent (Int32 × Mem)) := [(false, 0, 1, sLdI 1),
  (false, 1, 2, sC 100),
  (false, 3, 1, sBin0 (fun x y => x / y)),
  (false, 4, 2, sStI 5),
  (false, 6, 1, sLdI 1),
  (false, 7, 2, sC 10),
  (false, 9, 1, sBin0 (fun x y => x / y)),
  (false, 10, 2, sC 10),
  (false, 12, 1, sBin0 (fun x y => x - x / y * y)),
  (false, 13, 1, sC 1),
  (false, 14, 1, sBin (fun x y => x - y)),
  (false, 15, 2, sStI 6),
  (false, 17, 1, sLdI 1),
  (false, 18, 2, sC 10),
  (false, 20, 1, sBin0 (fun x y => x - x / y * y)),
  (false, 21, 2, sStI 7),
  (false, 23, 1, sLdI 1),
  (false, 24, 3, sIfLt 86),
  (false, 27, 1, sLdA 0),
  (false, 28, 2, sLdI 5),
  (false, 30, 3, sInv 2 true dK_isTown),
  (false, 33, 3, sIfEq 86),
  (false, 36, 2, sLdI 6),
  (false, 38, 3, sIfLt 50),
  (false, 41, 1, sLdA 0),
  (false, 42, 2, sLdI 6),
  (false, 44, 3, sInv 2 true dK_isTown),
  (false, 47, 3, sIfEq 86),
  (true, 50, 2, sLdI 6),
  (false, 52, 2, sLdI 5),
  (false, 54, 3, sCmpEq 86),
  (false, 57, 1, sLdA 0),
  (false, 58, 2, sLdI 7),
  (false, 60, 3, sInv 2 true dK_isCompany),
  (false, 63, 3, sIfEq 86),
  (false, 66, 1, sLdI 2),
  (false, 67, 1, sLdI 3),
  (false, 68, 3, sInv 2 true dK_areDays),
  (false, 71, 3, sIfEq 86),
  (false, 74, 2, sLdI 4),
  (false, 76, 1, sC 0),
  (false, 77, 3, sC 999),
  (false, 80, 3, sInv 3 true dK_in),
  (false, 83, 3, sIfNe 92),
  (false, 86, 1, sLdA 0),
  (false, 87, 1, sC 1),
  (false, 88, 3, sInv 2 true dK_finds),
  (false, 91, 1, sRetI),
  (false, 92, 1, sLdA 0),
  (false, 93, 3, sInv 1 true dK_isFull),
  (false, 96, 3, sIfEq 107),
  (false, 99, 1, sLdA 0),
  (false, 100, 1, sC 4),
  (false, 101, 3, sInv 2 true dK_finds),
  (false, 104, 3, sGoto 123),
  (false, 107, 1, sLdA 0),
  (false, 108, 1, sC 1),
  (false, 109, 2, sLdI 7),
  (false, 111, 1, sLdI 2),
  (false, 112, 1, sLdI 3),
  (false, 113, 2, sLdI 4),
  (false, 115, 2, sLdI 5),
  (false, 117, 2, sLdI 6),
  (false, 119, 1, sC (-1)),
  (false, 120, 3, sInv 9 true dK_newBond),
  (false, 123, 1, sRetI)]
theorem oK_contract {E : EV} (hsd : E.2.2.2 = 1) (l : Launch) : AllOK E l 3 "FreeLancesModel" prog_13_method_59_code 8 (some .int) outI (cK_contract) := by
  refine ak (ok_iload_n (k := 1) rfl (by decide +kernel)) ?_
  refine ak (ok_bipush (n := 100) (by decide) (by decide +kernel)) ?_
  refine ak (ok_idiv (by decide +kernel)) ?_
  refine ak (ok_istore (by decide) (by decide +kernel)) ?_
  refine ak (ok_iload_n (k := 1) rfl (by decide +kernel)) ?_
  refine ak (ok_bipush (n := 10) (by decide) (by decide +kernel)) ?_
  refine ak (ok_idiv (by decide +kernel)) ?_
  refine ak (ok_bipush (n := 10) (by decide) (by decide +kernel)) ?_
  refine ak (ok_irem (by decide +kernel)) ?_
  refine ak (ok_iconst (n := 1) (by decide) (by decide +kernel)) ?_
  refine ak (ok_isub (by decide +kernel)) ?_
  refine ak (ok_istore (by decide) (by decide +kernel)) ?_
  refine ak (ok_iload_n (k := 1) rfl (by decide +kernel)) ?_
  refine ak (ok_bipush (n := 10) (by decide) (by decide +kernel)) ?_
  refine ak (ok_irem (by decide +kernel)) ?_
  refine ak (ok_istore (by decide) (by decide +kernel)) ?_
  refine ak (ok_iload_n (k := 1) rfl (by decide +kernel)) ?_
  refine ak (ok_if_lt (off := 62) (by decide) (by decide +kernel)) ?_
  refine ak (ok_aload_n (k := 0) rfl (by decide +kernel)) ?_
  refine ak (ok_iload (by decide +kernel)) ?_
  refine ak (ok_invV (r := 40) (kK_isTown hsd l) qK_isTown ck11 kd40 iK_isTown tw1343 tw38 (by decide) tw1341 (by decide +kernel)) ?_
  refine ak (ok_if_eq (off := 53) (by decide) (by decide +kernel)) ?_
  refine ak (ok_iload (by decide +kernel)) ?_
  refine ak (ok_if_lt (off := 12) (by decide) (by decide +kernel)) ?_
  refine ak (ok_aload_n (k := 0) rfl (by decide +kernel)) ?_
  refine ak (ok_iload (by decide +kernel)) ?_
  refine ak (ok_invV (r := 40) (kK_isTown hsd l) qK_isTown ck11 kd40 iK_isTown tw1343 tw38 (by decide) tw1341 (by decide +kernel)) ?_
  refine ak (ok_if_eq (off := 39) (by decide) (by decide +kernel)) ?_
  refine ak (ok_iload (by decide +kernel)) ?_
  refine ak (ok_iload (by decide +kernel)) ?_
  refine ak (ok_icmp_eq (off := 32) (by decide) (by decide +kernel)) ?_
  refine ak (ok_aload_n (k := 0) rfl (by decide +kernel)) ?_
  refine ak (ok_iload (by decide +kernel)) ?_
  refine ak (ok_invV (r := 40) (kK_isCompany hsd l) qK_isCompany ck11 kd40 iK_isCompany tw1392 tw44 (by decide) tw1390 (by decide +kernel)) ?_
  refine ak (ok_if_eq (off := 23) (by decide) (by decide +kernel)) ?_
  refine ak (ok_iload_n (k := 2) rfl (by decide +kernel)) ?_
  refine ak (ok_iload_n (k := 3) rfl (by decide +kernel)) ?_
  refine ak (ok_invS (kK_areDays hsd l) iK_areDays tw1531 (by decide) tw1530 (by decide +kernel)) ?_
  refine ak (ok_if_eq (off := 15) (by decide) (by decide +kernel)) ?_
  refine ak (ok_iload (by decide +kernel)) ?_
  refine ak (ok_iconst (n := 0) (by decide) (by decide +kernel)) ?_
  refine ak (ok_sipush (n := 999) (by decide) (by decide +kernel)) ?_
  refine ak (ok_invS (kK_in hsd l) iK_in tw1330 (by decide) tw1329 (by decide +kernel)) ?_
  refine ak (ok_if_ne (off := 9) (by decide) (by decide +kernel)) ?_
  refine ak (ok_aload_n (k := 0) rfl (by decide +kernel)) ?_
  refine ak (ok_iconst (n := 1) (by decide) (by decide +kernel)) ?_
  refine ak (ok_invV (r := 40) (kK_finds hsd l) qK_finds ck11 kd40 iK_finds tw1334 tw37 (by decide) tw1332 (by decide +kernel)) ?_
  refine ak (ok_ireturn rfl (by decide +kernel)) ?_
  refine ak (ok_aload_n (k := 0) rfl (by decide +kernel)) ?_
  refine ak (ok_invV (r := 40) (kK_isFull hsd l) qK_isFull ck11 kd40 iK_isFull tw1535 tw64 (by decide) tw1533 (by decide +kernel)) ?_
  refine ak (ok_if_eq (off := 11) (by decide) (by decide +kernel)) ?_
  refine ak (ok_aload_n (k := 0) rfl (by decide +kernel)) ?_
  refine ak (ok_iconst (n := 4) (by decide) (by decide +kernel)) ?_
  refine ak (ok_invV (r := 40) (kK_finds hsd l) qK_finds ck11 kd40 iK_finds tw1334 tw37 (by decide) tw1332 (by decide +kernel)) ?_
  refine ak (ok_goto (off := 19) (by decide) (by decide +kernel)) ?_
  refine ak (ok_aload_n (k := 0) rfl (by decide +kernel)) ?_
  refine ak (ok_iconst (n := 1) (by decide) (by decide +kernel)) ?_
  refine ak (ok_iload (by decide +kernel)) ?_
  refine ak (ok_iload_n (k := 2) rfl (by decide +kernel)) ?_
  refine ak (ok_iload_n (k := 3) rfl (by decide +kernel)) ?_
  refine ak (ok_iload (by decide +kernel)) ?_
  refine ak (ok_iload (by decide +kernel)) ?_
  refine ak (ok_iload (by decide +kernel)) ?_
  refine ak (ok_iconst (n := (-1)) (by decide) (by decide +kernel)) ?_
  refine ak (ok_invV (r := 40) (kK_newBond hsd l) qK_newBond ck11 kd40 iK_newBond tw1539 tw65 (by decide) tw1537 (by decide +kernel)) ?_
  refine ak (ok_ireturn rfl (by decide +kernel)) ?_
  exact trivial
set_option maxRecDepth 1000000 in
theorem eK_contract_50 (x2 : Int32) (x3 : Int32) (x4 : Int32) (x5 : Int32) (x6 : Int32) (x7 : Int32) (M : Mem) (u1 : AV) : run (cK_contract) (fun _ _ _ _ => none) rtI 400 (seek (cK_contract) 50) [aR (40, 0, 0), u1, aI x2, aI x3, aI x4, aI x5, aI x6, aI x7] [] M = mK_contract_50b x2 x3 x4 x5 x6 x7 M := id rfl
theorem lK_contract_50 {E : EV} {l : Launch} {p : Program} {e : Env} {s : State} {m : MethodId} {args : Array Value} {below : List Frame} {meth : Method} {c : Code} (A : AllOK E l 3 "FreeLancesModel" prog_13_method_59_code 8 (some .int) outI (cK_contract)) (C : Cx E p s m args meth c "FreeLancesModel" prog_13_method_59_code 8 (some .int)) : ∀ (x2 : Int32) (x3 : Int32) (x4 : Int32) (x5 : Int32) (x6 : Int32) (x7 : Int32) (M : Mem) (res : (Int32 × Mem)), mK_contract_50 x2 x3 x4 x5 x6 x7 M = some res → ∀ (u1 : AV), Wm E p l e 3 s m args below meth c 8 50 [aR (40, 0, 0), u1, aI x2, aI x3, aI x4, aI x5, aI x6, aI x7] [] M (outI res).1 (outI res).2 := by
  intro x2 x3 x4 x5 x6 x7 M res h u1
  refine run_at C A rfl hrtI (n := 400) ((eK_contract_50 x2 x3 x4 x5 x6 x7 M u1).trans h) ?_
  intro t als st M hk; cases hk
def KK_contract (j50 : Int32 → Int32 → Int32 → Int32 → Int32 → Int32 → Mem → Option (Int32 × Mem)) : Jm (Int32 × Mem) := fun t als st M =>
  if t = 50 then (match als, st with
  | [.inr (.inr (.inl (al0, bl0, cl0))), _, .inl x2, .inl x3, .inl x4, .inl x5, .inl x6, .inl x7], [] => if al0 = 40 ∧ bl0 = 0 ∧ cl0 = 0 then j50 x2 x3 x4 x5 x6 x7 M else none
  | _, _ => none) else
  none
set_option maxRecDepth 1000000 in
theorem eK_contract (j50 : Int32 → Int32 → Int32 → Int32 → Int32 → Int32 → Mem → Option (Int32 × Mem)) (x1 : Int32) (x2 : Int32) (x3 : Int32) (x4 : Int32) (M : Mem) : run (cK_contract) (KK_contract j50) rtI 400 (seek (cK_contract) 0) [aR (40, 0, 0), aI x1, aI x2, aI x3, aI x4, aU, aU, aU] [] M = mK_contractb j50 x1 x2 x3 x4 M := id rfl
theorem lK_contract {E : EV} {l : Launch} {p : Program} {e : Env} {s : State} {m : MethodId} {args : Array Value} {below : List Frame} {meth : Method} {c : Code} (A : AllOK E l 3 "FreeLancesModel" prog_13_method_59_code 8 (some .int) outI (cK_contract)) (C : Cx E p s m args meth c "FreeLancesModel" prog_13_method_59_code 8 (some .int)) : ∀ (x1 : Int32) (x2 : Int32) (x3 : Int32) (x4 : Int32) (M : Mem) (res : (Int32 × Mem)), mK_contract x1 x2 x3 x4 M = some res → Wm E p l e 3 s m args below meth c 8 0 [aR (40, 0, 0), aI x1, aI x2, aI x3, aI x4, aU, aU, aU] [] M (outI res).1 (outI res).2 := by
  intro x1 x2 x3 x4 M res h
  refine run_at C A rfl hrtI (n := 400) ((eK_contract mK_contract_50 x1 x2 x3 x4 M).trans h) ?_
  intro t als st M hk
  unfold KK_contract at hk
  split at hk
  · rename_i ht
    subst ht
    split at hk
    · split at hk
      · rename_i hc
        obtain ⟨rfl, rfl, rfl⟩ := hc
        exact lK_contract_50 A C _ _ _ _ _ _ _ _ hk _
      · cases hk
    · cases hk
  cases hk
def dK_contract {β : Type} : Den β := fun as M k => match as with
  | [.inr (.inr (.inl (al0, bl0, cl0))), .inl x1, .inl x2, .inl x3, .inl x4] => if al0 = 40 ∧ bl0 = 0 ∧ cl0 = 0 then (mK_contract x1 x2 x3 x4 M).bind fun q => k (aI q.1) q.2 else none
  | _ => none
theorem wK_contract {E : EV} (hsd : E.2.2.2 = 1) (l : Launch) (x1 : Int32) (x2 : Int32) (x3 : Int32) (x4 : Int32) (M : Mem) (q : (Int32 × Mem)) (hq : mK_contract x1 x2 x3 x4 M = some q) : Con E l 3 yK_contract prog_13_method_59_code 8 (some .int) [aR (40, 0, 0), aI x1, aI x2, aI x3, aI x4] M (outI q).1 (outI q).2 := by
  refine con_of iK_contract (Nat.le_of_ble_eq_true rfl) ?_
  intro p e s m args below meth c C
  exact lK_contract (oK_contract hsd l) C x1 x2 x3 x4 M _ hq
theorem kK_contract {E : EV} (hsd : E.2.2.2 = 1) (l : Launch) {β : Type} : DenOK E l 3 yK_contract prog_13_method_59_code 8 (some .int) true (dK_contract (β := β)) := by
  intro as M k res h
  unfold dK_contract at h
  split at h
  ·
    split at h
    · rename_i hc
      obtain ⟨rfl, rfl, rfl⟩ := hc
      obtain ⟨q, hq, hk⟩ := Option.bind_eq_some_iff.mp h
      exact ⟨aI q.1, q.2, hk, rfl, wK_contract hsd l _ _ _ _ M q hq⟩
    · cases h
  · cases h
theorem qK_contract {β : Type} : RecOK 40 (dK_contract (β := β)) := by
  intro as M k res h
  unfold dK_contract at h
  split at h
  ·
    split at h
    · rename_i hc
      obtain ⟨rfl, rfl, rfl⟩ := hc
      exact ⟨_, _, _, rfl⟩
    · cases h
  · cases h
/-! ===== FreeLancesModel.isBond(I)Z ===== -/
abbrev yK_isBond : MethodName := ⟨"FreeLancesModel", "isBond", "(I)Z"⟩
theorem iK_isBond : MI yK_isBond prog_13_method_8_code 2 (some .boolean) 1 := ⟨tw1552, tw108, ⟨by decide, by decide⟩, by decide +kernel, by decide, by decide⟩
def cK_isBond : List (Ent (Int32 × Mem)) := [(false, 0, 1, sLdI 1),
  (false, 1, 1, sC 0),
  (false, 2, 1, sLdA 0),
  (false, 3, 3, sGet 40 (fun w i M => aR (41, 0, 0))),
  (false, 6, 1, sC 5),
  (false, 7, 1, sIald 41 1502),
  (false, 8, 1, sC 1),
  (false, 9, 1, sBin (fun x y => x - y)),
  (false, 10, 3, sInv 3 true dK_in),
  (false, 13, 1, sRetZ)]
theorem oK_isBond {E : EV} (hsd : E.2.2.2 = 1) (l : Launch) : AllOK E l 2 "FreeLancesModel" prog_13_method_8_code 2 (some .boolean) outI (cK_isBond) := by
  refine ak (ok_iload_n (k := 1) rfl (by decide +kernel)) ?_
  refine ak (ok_iconst (n := 0) (by decide) (by decide +kernel)) ?_
  refine ak (ok_aload_n (k := 0) rfl (by decide +kernel)) ?_
  refine ak (ok_get (k := 0) ck11 kd40 (by decide) (fun _ _ _ => rfl) (vf_40_0 hsd) tw1242 (by decide +kernel)) ?_
  refine ak (ok_iconst (n := 5) (by decide) (by decide +kernel)) ?_
  refine ak (ok_iald kd41 (by decide) (by decide +kernel)) ?_
  refine ak (ok_iconst (n := 1) (by decide) (by decide +kernel)) ?_
  refine ak (ok_isub (by decide +kernel)) ?_
  refine ak (ok_invS (kK_in hsd l) iK_in tw1330 (by decide) tw1329 (by decide +kernel)) ?_
  refine ak (ok_zreturn rfl (by decide +kernel)) ?_
  exact trivial
set_option maxRecDepth 1000000 in
theorem eK_isBond (x1 : Int32) (M : Mem) : run (cK_isBond) (fun _ _ _ _ => none) rtI 400 (seek (cK_isBond) 0) [aR (40, 0, 0), aI x1] [] M = mK_isBond x1 M := id rfl
theorem lK_isBond {E : EV} {l : Launch} {p : Program} {e : Env} {s : State} {m : MethodId} {args : Array Value} {below : List Frame} {meth : Method} {c : Code} (A : AllOK E l 2 "FreeLancesModel" prog_13_method_8_code 2 (some .boolean) outI (cK_isBond)) (C : Cx E p s m args meth c "FreeLancesModel" prog_13_method_8_code 2 (some .boolean)) : ∀ (x1 : Int32) (M : Mem) (res : (Int32 × Mem)), mK_isBond x1 M = some res → Wm E p l e 2 s m args below meth c 2 0 [aR (40, 0, 0), aI x1] [] M (outI res).1 (outI res).2 := by
  intro x1 M res h
  refine run_at C A rfl hrtI (n := 400) ((eK_isBond x1 M).trans h) ?_
  intro t als st M hk; cases hk
def dK_isBond {β : Type} : Den β := fun as M k => match as with
  | [.inr (.inr (.inl (al0, bl0, cl0))), .inl x1] => if al0 = 40 ∧ bl0 = 0 ∧ cl0 = 0 then (mK_isBond x1 M).bind fun q => k (aI q.1) q.2 else none
  | _ => none
theorem wK_isBond {E : EV} (hsd : E.2.2.2 = 1) (l : Launch) (x1 : Int32) (M : Mem) (q : (Int32 × Mem)) (hq : mK_isBond x1 M = some q) : Con E l 2 yK_isBond prog_13_method_8_code 2 (some .boolean) [aR (40, 0, 0), aI x1] M (outI q).1 (outI q).2 := by
  refine con_of iK_isBond (Nat.le_of_ble_eq_true rfl) ?_
  intro p e s m args below meth c C
  exact lK_isBond (oK_isBond hsd l) C x1 M _ hq
theorem kK_isBond {E : EV} (hsd : E.2.2.2 = 1) (l : Launch) {β : Type} : DenOK E l 2 yK_isBond prog_13_method_8_code 2 (some .boolean) true (dK_isBond (β := β)) := by
  intro as M k res h
  unfold dK_isBond at h
  split at h
  ·
    split at h
    · rename_i hc
      obtain ⟨rfl, rfl, rfl⟩ := hc
      obtain ⟨q, hq, hk⟩ := Option.bind_eq_some_iff.mp h
      exact ⟨aI q.1, q.2, hk, rfl, wK_isBond hsd l _ M q hq⟩
    · cases h
  · cases h
theorem qK_isBond {β : Type} : RecOK 40 (dK_isBond (β := β)) := by
  intro as M k res h
  unfold dK_isBond at h
  split at h
  ·
    split at h
    · rename_i hc
      obtain ⟨rfl, rfl, rfl⟩ := hc
      exact ⟨_, _, _, rfl⟩
    · cases h
  · cases h
