/-! ===== FreeLances$Voices.work(III)I ===== -/
def cV_work (rV_own : Int32 → Int32 → Int32 → Mem → Option (Int32 × Mem)) (rV_above : Int32 → Int32 → Int32 → Int32 → Mem → Option (Int32 × Mem)) : List (Ent (Int32 × Mem)) := [(false, 0, 1, sLdI 1),
  (false, 1, 115, sSw 284 [(10, 116), (11, 123), (12, 136), (13, 145), (20, 161), (21, 172), (30, 183), (31, 200), (40, 211), (50, 222), (51, 233), (60, 247), (70, 264)]),
  (false, 116, 1, sLdI 2),
  (false, 117, 1, sLdA 0),
  (false, 118, 3, sGet 21 (fun w i M => aI (M 21 w i 3))),
  (false, 121, 1, sBin (fun x y => x + y)),
  (false, 122, 1, sRetI),
  (false, 123, 1, sLdA 0),
  (false, 124, 1, sC 0),
  (false, 125, 1, sLdI 2),
  (false, 126, 1, sLdI 3),
  (false, 127, 3, sInv 4 true (dV_own rV_own)),
  (false, 130, 1, sLdA 0),
  (false, 131, 3, sGet 21 (fun w i M => aI (M 21 w i 4))),
  (false, 134, 1, sBin (fun x y => x + y)),
  (false, 135, 1, sRetI),
  (false, 136, 1, sLdI 2),
  (false, 137, 1, sC 2),
  (false, 138, 1, sBin (fun x y => x * y)),
  (false, 139, 1, sLdA 0),
  (false, 140, 3, sGet 21 (fun w i M => aI (M 21 w i 3))),
  (false, 143, 1, sBin (fun x y => x - y)),
  (false, 144, 1, sRetI),
  (false, 145, 1, sLdA 0),
  (false, 146, 1, sC 1),
  (false, 147, 1, sLdI 2),
  (false, 148, 1, sLdI 3),
  (false, 149, 3, sInv 4 true (dV_own rV_own)),
  (false, 152, 1, sLdA 0),
  (false, 153, 1, sC 2),
  (false, 154, 1, sLdI 2),
  (false, 155, 1, sLdI 3),
  (false, 156, 3, sInv 4 true (dV_own rV_own)),
  (false, 159, 1, sBin (fun x y => x ^^^ y)),
  (false, 160, 1, sRetI),
  (false, 161, 1, sLdA 0),
  (false, 162, 1, sC 1),
  (false, 163, 1, sC 1),
  (false, 164, 1, sLdI 2),
  (false, 165, 1, sLdI 3),
  (false, 166, 3, sInv 5 true (dV_above rV_above)),
  (false, 169, 1, sC 2),
  (false, 170, 1, sBin (fun x y => x * y)),
  (false, 171, 1, sRetI),
  (false, 172, 1, sLdA 0),
  (false, 173, 1, sC 1),
  (false, 174, 1, sC 2),
  (false, 175, 1, sLdI 2),
  (false, 176, 1, sC 1),
  (false, 177, 1, sBin (fun x y => x - y)),
  (false, 178, 1, sLdI 3),
  (false, 179, 3, sInv 5 true (dV_above rV_above)),
  (false, 182, 1, sRetI),
  (false, 183, 1, sLdA 0),
  (false, 184, 1, sC 2),
  (false, 185, 1, sC 2),
  (false, 186, 1, sLdI 2),
  (false, 187, 1, sLdI 3),
  (false, 188, 3, sInv 5 true (dV_above rV_above)),
  (false, 191, 1, sLdA 0),
  (false, 192, 1, sC 0),
  (false, 193, 1, sLdI 2),
  (false, 194, 1, sLdI 3),
  (false, 195, 3, sInv 4 true (dV_own rV_own)),
  (false, 198, 1, sBin (fun x y => x + y)),
  (false, 199, 1, sRetI),
  (false, 200, 1, sLdA 0),
  (false, 201, 1, sC 2),
  (false, 202, 1, sC 0),
  (false, 203, 1, sLdI 2),
  (false, 204, 1, sLdI 3),
  (false, 205, 3, sInv 5 true (dV_above rV_above)),
  (false, 208, 1, sC 3),
  (false, 209, 1, sBin (fun x y => x * y)),
  (false, 210, 1, sRetI),
  (false, 211, 1, sLdI 2),
  (false, 212, 1, sLdA 0),
  (false, 213, 1, sC 3),
  (false, 214, 1, sC 1),
  (false, 215, 1, sLdI 2),
  (false, 216, 1, sLdI 3),
  (false, 217, 3, sInv 5 true (dV_above rV_above)),
  (false, 220, 1, sBin (fun x y => x - y)),
  (false, 221, 1, sRetI),
  (false, 222, 1, sLdA 0),
  (false, 223, 1, sC 4),
  (false, 224, 1, sC 3),
  (false, 225, 1, sLdI 2),
  (false, 226, 1, sLdI 3),
  (false, 227, 3, sInv 5 true (dV_above rV_above)),
  (false, 230, 1, sC 1),
  (false, 231, 1, sBin (fun x y => x - y)),
  (false, 232, 1, sRetI),
  (false, 233, 1, sLdA 0),
  (false, 234, 1, sC 4),
  (false, 235, 1, sC 0),
  (false, 236, 1, sLdI 2),
  (false, 237, 1, sLdA 0),
  (false, 238, 3, sGet 21 (fun w i M => aI (M 21 w i 4))),
  (false, 241, 1, sBin (fun x y => x + y)),
  (false, 242, 1, sLdI 3),
  (false, 243, 3, sInv 5 true (dV_above rV_above)),
  (false, 246, 1, sRetI),
  (false, 247, 1, sLdA 0),
  (false, 248, 1, sC 1),
  (false, 249, 1, sLdI 2),
  (false, 250, 1, sLdI 3),
  (false, 251, 3, sInv 4 true (dV_own rV_own)),
  (false, 254, 1, sLdA 0),
  (false, 255, 1, sC 5),
  (false, 256, 1, sC 2),
  (false, 257, 1, sLdI 2),
  (false, 258, 1, sLdI 3),
  (false, 259, 3, sInv 5 true (dV_above rV_above)),
  (false, 262, 1, sBin (fun x y => x - y)),
  (false, 263, 1, sRetI),
  (false, 264, 1, sLdA 0),
  (false, 265, 1, sC 2),
  (false, 266, 1, sLdI 2),
  (false, 267, 1, sLdI 3),
  (false, 268, 3, sInv 4 true (dV_own rV_own)),
  (false, 271, 1, sLdA 0),
  (false, 272, 2, sC 6),
  (false, 274, 1, sC 3),
  (false, 275, 1, sLdI 2),
  (false, 276, 1, sC 1),
  (false, 277, 1, sBin (fun x y => x + y)),
  (false, 278, 1, sLdI 3),
  (false, 279, 3, sInv 5 true (dV_above rV_above)),
  (false, 282, 1, sBin (fun x y => x + y)),
  (false, 283, 1, sRetI),
  (false, 284, 1, sC 0),
  (false, 285, 1, sRetI)]
theorem oV_work {E : EV} (hsd : E.2.2.2 = 0) (l : Launch) (D : Nat) (hD : 0 ≤ D) (rV_own : Int32 → Int32 → Int32 → Mem → Option (Int32 × Mem)) (rV_above : Int32 → Int32 → Int32 → Int32 → Mem → Option (Int32 × Mem)) (hV_own : ∀ {β : Type}, DenOK E l D yV_own prog_10_method_3_code 4 (some .int) true (dV_own (β := β) rV_own)) (hV_above : ∀ {β : Type}, DenOK E l D yV_above prog_10_method_4_code 5 (some .int) true (dV_above (β := β) rV_above)) : AllOK E l (D + 1) "FreeLances$Voices" prog_10_method_6_code 4 (some .int) outI (cV_work rV_own rV_above) := by
  refine ak (ok_iload_n (k := 1) rfl (by decide +kernel)) ?_
  refine ak (ok_lookup (df := 283) (ps := #[(10, 115), (11, 122), (12, 135), (13, 144), (20, 160), (21, 171), (30, 182), (31, 199), (40, 210), (50, 221), (51, 232), (60, 246), (70, 263)]) (by decide) (by decide) (by decide) (by decide +kernel)) ?_
  refine ak (ok_iload_n (k := 2) rfl (by decide +kernel)) ?_
  refine ak (ok_aload_n (k := 0) rfl (by decide +kernel)) ?_
  refine ak (ok_get (k := 3) ck8 kd21 (by decide) (fun _ _ _ => rfl) (fun _ _ _ _ _ => trivial) tw496 (by decide +kernel)) ?_
  refine ak (ok_iadd (by decide +kernel)) ?_
  refine ak (ok_ireturn rfl (by decide +kernel)) ?_
  refine ak (ok_aload_n (k := 0) rfl (by decide +kernel)) ?_
  refine ak (ok_iconst (n := 0) (by decide) (by decide +kernel)) ?_
  refine ak (ok_iload_n (k := 2) rfl (by decide +kernel)) ?_
  refine ak (ok_iload_n (k := 3) rfl (by decide +kernel)) ?_
  refine ak (ok_invV (r := 21) hV_own (qV_own rV_own) ck8 kd21 iV_own tw1137 tw33 (by omega) tw1135 (by decide +kernel)) ?_
  refine ak (ok_aload_n (k := 0) rfl (by decide +kernel)) ?_
  refine ak (ok_get (k := 4) ck8 kd21 (by decide) (fun _ _ _ => rfl) (fun _ _ _ _ _ => trivial) tw497 (by decide +kernel)) ?_
  refine ak (ok_iadd (by decide +kernel)) ?_
  refine ak (ok_ireturn rfl (by decide +kernel)) ?_
  refine ak (ok_iload_n (k := 2) rfl (by decide +kernel)) ?_
  refine ak (ok_iconst (n := 2) (by decide) (by decide +kernel)) ?_
  refine ak (ok_imul (by decide +kernel)) ?_
  refine ak (ok_aload_n (k := 0) rfl (by decide +kernel)) ?_
  refine ak (ok_get (k := 3) ck8 kd21 (by decide) (fun _ _ _ => rfl) (fun _ _ _ _ _ => trivial) tw496 (by decide +kernel)) ?_
  refine ak (ok_isub (by decide +kernel)) ?_
  refine ak (ok_ireturn rfl (by decide +kernel)) ?_
  refine ak (ok_aload_n (k := 0) rfl (by decide +kernel)) ?_
  refine ak (ok_iconst (n := 1) (by decide) (by decide +kernel)) ?_
  refine ak (ok_iload_n (k := 2) rfl (by decide +kernel)) ?_
  refine ak (ok_iload_n (k := 3) rfl (by decide +kernel)) ?_
  refine ak (ok_invV (r := 21) hV_own (qV_own rV_own) ck8 kd21 iV_own tw1137 tw33 (by omega) tw1135 (by decide +kernel)) ?_
  refine ak (ok_aload_n (k := 0) rfl (by decide +kernel)) ?_
  refine ak (ok_iconst (n := 2) (by decide) (by decide +kernel)) ?_
  refine ak (ok_iload_n (k := 2) rfl (by decide +kernel)) ?_
  refine ak (ok_iload_n (k := 3) rfl (by decide +kernel)) ?_
  refine ak (ok_invV (r := 21) hV_own (qV_own rV_own) ck8 kd21 iV_own tw1137 tw33 (by omega) tw1135 (by decide +kernel)) ?_
  refine ak (ok_ixor (by decide +kernel)) ?_
  refine ak (ok_ireturn rfl (by decide +kernel)) ?_
  refine ak (ok_aload_n (k := 0) rfl (by decide +kernel)) ?_
  refine ak (ok_iconst (n := 1) (by decide) (by decide +kernel)) ?_
  refine ak (ok_iconst (n := 1) (by decide) (by decide +kernel)) ?_
  refine ak (ok_iload_n (k := 2) rfl (by decide +kernel)) ?_
  refine ak (ok_iload_n (k := 3) rfl (by decide +kernel)) ?_
  refine ak (ok_invV (r := 21) hV_above (qV_above rV_above) ck8 kd21 iV_above tw1152 tw36 (by omega) tw1150 (by decide +kernel)) ?_
  refine ak (ok_iconst (n := 2) (by decide) (by decide +kernel)) ?_
  refine ak (ok_imul (by decide +kernel)) ?_
  refine ak (ok_ireturn rfl (by decide +kernel)) ?_
  refine ak (ok_aload_n (k := 0) rfl (by decide +kernel)) ?_
  refine ak (ok_iconst (n := 1) (by decide) (by decide +kernel)) ?_
  refine ak (ok_iconst (n := 2) (by decide) (by decide +kernel)) ?_
  refine ak (ok_iload_n (k := 2) rfl (by decide +kernel)) ?_
  refine ak (ok_iconst (n := 1) (by decide) (by decide +kernel)) ?_
  refine ak (ok_isub (by decide +kernel)) ?_
  refine ak (ok_iload_n (k := 3) rfl (by decide +kernel)) ?_
  refine ak (ok_invV (r := 21) hV_above (qV_above rV_above) ck8 kd21 iV_above tw1152 tw36 (by omega) tw1150 (by decide +kernel)) ?_
  refine ak (ok_ireturn rfl (by decide +kernel)) ?_
  refine ak (ok_aload_n (k := 0) rfl (by decide +kernel)) ?_
  refine ak (ok_iconst (n := 2) (by decide) (by decide +kernel)) ?_
  refine ak (ok_iconst (n := 2) (by decide) (by decide +kernel)) ?_
  refine ak (ok_iload_n (k := 2) rfl (by decide +kernel)) ?_
  refine ak (ok_iload_n (k := 3) rfl (by decide +kernel)) ?_
  refine ak (ok_invV (r := 21) hV_above (qV_above rV_above) ck8 kd21 iV_above tw1152 tw36 (by omega) tw1150 (by decide +kernel)) ?_
  refine ak (ok_aload_n (k := 0) rfl (by decide +kernel)) ?_
  refine ak (ok_iconst (n := 0) (by decide) (by decide +kernel)) ?_
  refine ak (ok_iload_n (k := 2) rfl (by decide +kernel)) ?_
  refine ak (ok_iload_n (k := 3) rfl (by decide +kernel)) ?_
  refine ak (ok_invV (r := 21) hV_own (qV_own rV_own) ck8 kd21 iV_own tw1137 tw33 (by omega) tw1135 (by decide +kernel)) ?_
  refine ak (ok_iadd (by decide +kernel)) ?_
  refine ak (ok_ireturn rfl (by decide +kernel)) ?_
  refine ak (ok_aload_n (k := 0) rfl (by decide +kernel)) ?_
  refine ak (ok_iconst (n := 2) (by decide) (by decide +kernel)) ?_
  refine ak (ok_iconst (n := 0) (by decide) (by decide +kernel)) ?_
  refine ak (ok_iload_n (k := 2) rfl (by decide +kernel)) ?_
  refine ak (ok_iload_n (k := 3) rfl (by decide +kernel)) ?_
  refine ak (ok_invV (r := 21) hV_above (qV_above rV_above) ck8 kd21 iV_above tw1152 tw36 (by omega) tw1150 (by decide +kernel)) ?_
  refine ak (ok_iconst (n := 3) (by decide) (by decide +kernel)) ?_
  refine ak (ok_imul (by decide +kernel)) ?_
  refine ak (ok_ireturn rfl (by decide +kernel)) ?_
  refine ak (ok_iload_n (k := 2) rfl (by decide +kernel)) ?_
  refine ak (ok_aload_n (k := 0) rfl (by decide +kernel)) ?_
  refine ak (ok_iconst (n := 3) (by decide) (by decide +kernel)) ?_
  refine ak (ok_iconst (n := 1) (by decide) (by decide +kernel)) ?_
  refine ak (ok_iload_n (k := 2) rfl (by decide +kernel)) ?_
  refine ak (ok_iload_n (k := 3) rfl (by decide +kernel)) ?_
  refine ak (ok_invV (r := 21) hV_above (qV_above rV_above) ck8 kd21 iV_above tw1152 tw36 (by omega) tw1150 (by decide +kernel)) ?_
  refine ak (ok_isub (by decide +kernel)) ?_
  refine ak (ok_ireturn rfl (by decide +kernel)) ?_
  refine ak (ok_aload_n (k := 0) rfl (by decide +kernel)) ?_
  refine ak (ok_iconst (n := 4) (by decide) (by decide +kernel)) ?_
  refine ak (ok_iconst (n := 3) (by decide) (by decide +kernel)) ?_
  refine ak (ok_iload_n (k := 2) rfl (by decide +kernel)) ?_
  refine ak (ok_iload_n (k := 3) rfl (by decide +kernel)) ?_
  refine ak (ok_invV (r := 21) hV_above (qV_above rV_above) ck8 kd21 iV_above tw1152 tw36 (by omega) tw1150 (by decide +kernel)) ?_
  refine ak (ok_iconst (n := 1) (by decide) (by decide +kernel)) ?_
  refine ak (ok_isub (by decide +kernel)) ?_
  refine ak (ok_ireturn rfl (by decide +kernel)) ?_
  refine ak (ok_aload_n (k := 0) rfl (by decide +kernel)) ?_
  refine ak (ok_iconst (n := 4) (by decide) (by decide +kernel)) ?_
  refine ak (ok_iconst (n := 0) (by decide) (by decide +kernel)) ?_
  refine ak (ok_iload_n (k := 2) rfl (by decide +kernel)) ?_
  refine ak (ok_aload_n (k := 0) rfl (by decide +kernel)) ?_
  refine ak (ok_get (k := 4) ck8 kd21 (by decide) (fun _ _ _ => rfl) (fun _ _ _ _ _ => trivial) tw497 (by decide +kernel)) ?_
  refine ak (ok_iadd (by decide +kernel)) ?_
  refine ak (ok_iload_n (k := 3) rfl (by decide +kernel)) ?_
  refine ak (ok_invV (r := 21) hV_above (qV_above rV_above) ck8 kd21 iV_above tw1152 tw36 (by omega) tw1150 (by decide +kernel)) ?_
  refine ak (ok_ireturn rfl (by decide +kernel)) ?_
  refine ak (ok_aload_n (k := 0) rfl (by decide +kernel)) ?_
  refine ak (ok_iconst (n := 1) (by decide) (by decide +kernel)) ?_
  refine ak (ok_iload_n (k := 2) rfl (by decide +kernel)) ?_
  refine ak (ok_iload_n (k := 3) rfl (by decide +kernel)) ?_
  refine ak (ok_invV (r := 21) hV_own (qV_own rV_own) ck8 kd21 iV_own tw1137 tw33 (by omega) tw1135 (by decide +kernel)) ?_
  refine ak (ok_aload_n (k := 0) rfl (by decide +kernel)) ?_
  refine ak (ok_iconst (n := 5) (by decide) (by decide +kernel)) ?_
  refine ak (ok_iconst (n := 2) (by decide) (by decide +kernel)) ?_
  refine ak (ok_iload_n (k := 2) rfl (by decide +kernel)) ?_
  refine ak (ok_iload_n (k := 3) rfl (by decide +kernel)) ?_
  refine ak (ok_invV (r := 21) hV_above (qV_above rV_above) ck8 kd21 iV_above tw1152 tw36 (by omega) tw1150 (by decide +kernel)) ?_
  refine ak (ok_isub (by decide +kernel)) ?_
  refine ak (ok_ireturn rfl (by decide +kernel)) ?_
  refine ak (ok_aload_n (k := 0) rfl (by decide +kernel)) ?_
  refine ak (ok_iconst (n := 2) (by decide) (by decide +kernel)) ?_
  refine ak (ok_iload_n (k := 2) rfl (by decide +kernel)) ?_
  refine ak (ok_iload_n (k := 3) rfl (by decide +kernel)) ?_
  refine ak (ok_invV (r := 21) hV_own (qV_own rV_own) ck8 kd21 iV_own tw1137 tw33 (by omega) tw1135 (by decide +kernel)) ?_
  refine ak (ok_aload_n (k := 0) rfl (by decide +kernel)) ?_
  refine ak (ok_bipush (n := 6) (by decide) (by decide +kernel)) ?_
  refine ak (ok_iconst (n := 3) (by decide) (by decide +kernel)) ?_
  refine ak (ok_iload_n (k := 2) rfl (by decide +kernel)) ?_
  refine ak (ok_iconst (n := 1) (by decide) (by decide +kernel)) ?_
  refine ak (ok_iadd (by decide +kernel)) ?_
  refine ak (ok_iload_n (k := 3) rfl (by decide +kernel)) ?_
  refine ak (ok_invV (r := 21) hV_above (qV_above rV_above) ck8 kd21 iV_above tw1152 tw36 (by omega) tw1150 (by decide +kernel)) ?_
  refine ak (ok_iadd (by decide +kernel)) ?_
  refine ak (ok_ireturn rfl (by decide +kernel)) ?_
  refine ak (ok_iconst (n := 0) (by decide) (by decide +kernel)) ?_
  refine ak (ok_ireturn rfl (by decide +kernel)) ?_
  exact trivial
set_option maxRecDepth 1000000 in
theorem eV_work (rV_own : Int32 → Int32 → Int32 → Mem → Option (Int32 × Mem)) (rV_above : Int32 → Int32 → Int32 → Int32 → Mem → Option (Int32 × Mem)) (x1 : Int32) (x2 : Int32) (x3 : Int32) (M : Mem) : run (cV_work rV_own rV_above) (fun _ _ _ _ => none) rtI 400 (seek (cV_work rV_own rV_above) 0) [aR (21, 0, 0), aI x1, aI x2, aI x3] [] M = mV_work rV_own rV_above x1 x2 x3 M := id rfl
theorem lV_work {E : EV} {l : Launch} {p : Program} {e : Env} {s : State} {m : MethodId} {args : Array Value} {below : List Frame} {meth : Method} {c : Code} {D : Nat} (rV_own : Int32 → Int32 → Int32 → Mem → Option (Int32 × Mem)) (rV_above : Int32 → Int32 → Int32 → Int32 → Mem → Option (Int32 × Mem)) (A : AllOK E l (D + 1) "FreeLances$Voices" prog_10_method_6_code 4 (some .int) outI (cV_work rV_own rV_above)) (C : Cx E p s m args meth c "FreeLances$Voices" prog_10_method_6_code 4 (some .int)) : ∀ (x1 : Int32) (x2 : Int32) (x3 : Int32) (M : Mem) (res : (Int32 × Mem)), mV_work rV_own rV_above x1 x2 x3 M = some res → Wm E p l e (D + 1) s m args below meth c 4 0 [aR (21, 0, 0), aI x1, aI x2, aI x3] [] M (outI res).1 (outI res).2 := by
  intro x1 x2 x3 M res h
  refine run_at C A rfl hrtI (n := 400) ((eV_work rV_own rV_above x1 x2 x3 M).trans h) ?_
  intro t als st M hk; cases hk
theorem wV_work {E : EV} (hsd : E.2.2.2 = 0) (l : Launch) (D : Nat) (hD : 0 ≤ D) (rV_own : Int32 → Int32 → Int32 → Mem → Option (Int32 × Mem)) (rV_above : Int32 → Int32 → Int32 → Int32 → Mem → Option (Int32 × Mem)) (hV_own : ∀ {β : Type}, DenOK E l D yV_own prog_10_method_3_code 4 (some .int) true (dV_own (β := β) rV_own)) (hV_above : ∀ {β : Type}, DenOK E l D yV_above prog_10_method_4_code 5 (some .int) true (dV_above (β := β) rV_above)) (x1 : Int32) (x2 : Int32) (x3 : Int32) (M : Mem) (q : (Int32 × Mem)) (hq : mV_work rV_own rV_above x1 x2 x3 M = some q) : Con E l (D + 1) yV_work prog_10_method_6_code 4 (some .int) [aR (21, 0, 0), aI x1, aI x2, aI x3] M (outI q).1 (outI q).2 := by
  refine con_of iV_work (Nat.le_of_ble_eq_true rfl) ?_
  intro p e s m args below meth c C
  exact lV_work rV_own rV_above (oV_work hsd l D hD rV_own rV_above hV_own hV_above) C x1 x2 x3 M _ hq
/-! ===== FreeLances$Voices.above(IIII)I ===== -/
def cV_above (rV_from : Int32 → Int32 → Int32 → Int32 → Mem → Option (Int32 × Mem)) : List (Ent (Int32 × Mem)) := [(false, 0, 1, sLdA 0),
  (false, 1, 3, sGs (27, 0, 0)),
  (false, 4, 1, sLdI 1),
  (false, 5, 1, sTald 27 7 tabA),
  (false, 6, 1, sLdI 2),
  (false, 7, 1, sLdI 3),
  (false, 8, 2, sLdI 4),
  (false, 10, 3, sInv 5 true (dV_from rV_from)),
  (false, 13, 1, sRetI)]
theorem oV_above {E : EV} (hsd : E.2.2.2 = 0) (l : Launch) (D : Nat) (hD : 0 ≤ D) (rV_from : Int32 → Int32 → Int32 → Int32 → Mem → Option (Int32 × Mem)) (hV_from : ∀ {β : Type}, DenOK E l D yV_from prog_10_method_5_code 7 (some .int) true (dV_from (β := β) rV_from)) : AllOK E l (D + 1) "FreeLances$Voices" prog_10_method_4_code 5 (some .int) outI (cV_above rV_from) := by
  refine ak (ok_aload_n (k := 0) rfl (by decide +kernel)) ?_
  refine ak (ok_gsAN tw1145 (by decide +kernel)) ?_
  refine ak (ok_iload_n (k := 1) rfl (by decide +kernel)) ?_
  refine ak (ok_taldA hsd (by decide +kernel)) ?_
  refine ak (ok_iload_n (k := 2) rfl (by decide +kernel)) ?_
  refine ak (ok_iload_n (k := 3) rfl (by decide +kernel)) ?_
  refine ak (ok_iload (by decide +kernel)) ?_
  refine ak (ok_invV (r := 21) hV_from (qV_from rV_from) ck8 kd21 iV_from tw1141 tw34 (by omega) tw1139 (by decide +kernel)) ?_
  refine ak (ok_ireturn rfl (by decide +kernel)) ?_
  exact trivial
set_option maxRecDepth 1000000 in
theorem eV_above (rV_from : Int32 → Int32 → Int32 → Int32 → Mem → Option (Int32 × Mem)) (x1 : Int32) (x2 : Int32) (x3 : Int32) (x4 : Int32) (M : Mem) : run (cV_above rV_from) (fun _ _ _ _ => none) rtI 400 (seek (cV_above rV_from) 0) [aR (21, 0, 0), aI x1, aI x2, aI x3, aI x4] [] M = mV_above rV_from x1 x2 x3 x4 M := id rfl
theorem lV_above {E : EV} {l : Launch} {p : Program} {e : Env} {s : State} {m : MethodId} {args : Array Value} {below : List Frame} {meth : Method} {c : Code} {D : Nat} (rV_from : Int32 → Int32 → Int32 → Int32 → Mem → Option (Int32 × Mem)) (A : AllOK E l (D + 1) "FreeLances$Voices" prog_10_method_4_code 5 (some .int) outI (cV_above rV_from)) (C : Cx E p s m args meth c "FreeLances$Voices" prog_10_method_4_code 5 (some .int)) : ∀ (x1 : Int32) (x2 : Int32) (x3 : Int32) (x4 : Int32) (M : Mem) (res : (Int32 × Mem)), mV_above rV_from x1 x2 x3 x4 M = some res → Wm E p l e (D + 1) s m args below meth c 5 0 [aR (21, 0, 0), aI x1, aI x2, aI x3, aI x4] [] M (outI res).1 (outI res).2 := by
  intro x1 x2 x3 x4 M res h
  refine run_at C A rfl hrtI (n := 400) ((eV_above rV_from x1 x2 x3 x4 M).trans h) ?_
  intro t als st M hk; cases hk
theorem wV_above {E : EV} (hsd : E.2.2.2 = 0) (l : Launch) (D : Nat) (hD : 0 ≤ D) (rV_from : Int32 → Int32 → Int32 → Int32 → Mem → Option (Int32 × Mem)) (hV_from : ∀ {β : Type}, DenOK E l D yV_from prog_10_method_5_code 7 (some .int) true (dV_from (β := β) rV_from)) (x1 : Int32) (x2 : Int32) (x3 : Int32) (x4 : Int32) (M : Mem) (q : (Int32 × Mem)) (hq : mV_above rV_from x1 x2 x3 x4 M = some q) : Con E l (D + 1) yV_above prog_10_method_4_code 5 (some .int) [aR (21, 0, 0), aI x1, aI x2, aI x3, aI x4] M (outI q).1 (outI q).2 := by
  refine con_of iV_above (Nat.le_of_ble_eq_true rfl) ?_
  intro p e s m args below meth c C
  exact lV_above rV_from (oV_above hsd l D hD rV_from hV_from) C x1 x2 x3 x4 M _ hq
theorem g2_con {E : EV} (hsd : E.2.2.2 = 0) (l : Launch) : ∀ n : Nat, (∀ (x1 : Int32) (x2 : Int32) (x3 : Int32) (M : Mem) (q : (Int32 × Mem)), g2 n 0 x1 x2 x3 0 M = some q → Con E l (0 + n) yV_own prog_10_method_3_code 4 (some .int) [aR (21, 0, 0), aI x1, aI x2, aI x3] M (outI q).1 (outI q).2) ∧ (∀ (x1 : Int32) (x2 : Int32) (x3 : Int32) (x4 : Int32) (M : Mem) (q : (Int32 × Mem)), g2 n 1 x1 x2 x3 x4 M = some q → Con E l (0 + n) yV_from prog_10_method_5_code 7 (some .int) [aR (21, 0, 0), aI x1, aI x2, aI x3, aI x4] M (outI q).1 (outI q).2) ∧ (∀ (x1 : Int32) (x2 : Int32) (x3 : Int32) (M : Mem) (q : (Int32 × Mem)), g2 n 2 x1 x2 x3 0 M = some q → Con E l (0 + n) yV_work prog_10_method_6_code 4 (some .int) [aR (21, 0, 0), aI x1, aI x2, aI x3] M (outI q).1 (outI q).2) ∧ (∀ (x1 : Int32) (x2 : Int32) (x3 : Int32) (x4 : Int32) (M : Mem) (q : (Int32 × Mem)), g2 n 3 x1 x2 x3 x4 M = some q → Con E l (0 + n) yV_above prog_10_method_4_code 5 (some .int) [aR (21, 0, 0), aI x1, aI x2, aI x3, aI x4] M (outI q).1 (outI q).2) := by
  intro n
  induction n with
  | zero => exact ⟨(fun _ _ _ _ _ h => by cases h), (fun _ _ _ _ _ _ h => by cases h), (fun _ _ _ _ _ h => by cases h), (fun _ _ _ _ _ _ h => by cases h)⟩
  | succ n ih =>
    obtain ⟨ih0, ih1, ih2, ih3⟩ := ih
    exact ⟨(fun x1 x2 x3 M q h => wV_own hsd l (0 + n) (by omega) _ (kV_from ih1) x1 x2 x3 M q h), (fun x1 x2 x3 x4 M q h => wV_from hsd l (0 + n) (by omega) _ (kV_work ih2) x1 x2 x3 x4 M q h), (fun x1 x2 x3 M q h => wV_work hsd l (0 + n) (by omega) _ _ (kV_own ih0) (kV_above ih3) x1 x2 x3 M q h), (fun x1 x2 x3 x4 M q h => wV_above hsd l (0 + n) (by omega) _ (kV_from ih1) x1 x2 x3 x4 M q h)⟩
theorem kxV_own {E : EV} (hsd : E.2.2.2 = 0) (l : Launch) {β : Type} : DenOK E l 60 yV_own prog_10_method_3_code 4 (some .int) true (dV_own (β := β) xV_own) := kV_own (fun x1 x2 x3 M q h => (g2_con hsd l 60).1 x1 x2 x3 M q h)
theorem kxV_from {E : EV} (hsd : E.2.2.2 = 0) (l : Launch) {β : Type} : DenOK E l 60 yV_from prog_10_method_5_code 7 (some .int) true (dV_from (β := β) xV_from) := kV_from (fun x1 x2 x3 x4 M q h => (g2_con hsd l 60).2.1 x1 x2 x3 x4 M q h)
theorem kxV_work {E : EV} (hsd : E.2.2.2 = 0) (l : Launch) {β : Type} : DenOK E l 60 yV_work prog_10_method_6_code 4 (some .int) true (dV_work (β := β) xV_work) := kV_work (fun x1 x2 x3 M q h => (g2_con hsd l 60).2.2.1 x1 x2 x3 M q h)
theorem kxV_above {E : EV} (hsd : E.2.2.2 = 0) (l : Launch) {β : Type} : DenOK E l 60 yV_above prog_10_method_4_code 5 (some .int) true (dV_above (β := β) xV_above) := kV_above (fun x1 x2 x3 x4 M q h => (g2_con hsd l 60).2.2.2 x1 x2 x3 x4 M q h)
