/-! ===== FreeLances$Bond.copy(LFreeLances$Bond;)V ===== -/
abbrev yB_copy : MethodName := ⟨"FreeLances$Bond", "copy", "(LFreeLances$Bond;)V"⟩
theorem iB_copy : MI yB_copy prog_2_method_3_code 2 none 1 := ⟨tw1126, tw104, ⟨by decide, by decide⟩, by decide +kernel, by decide, by decide⟩
def cB_copy : List (Ent Mem) := [(false, 0, 1, sLdA 0),
  (false, 1, 1, sLdA 1),
  (false, 2, 3, sGet 15 (fun w i M => aI (M 15 w i 0))),
  (false, 5, 3, sPut 15 0),
  (false, 8, 1, sLdA 0),
  (false, 9, 1, sLdA 1),
  (false, 10, 3, sGet 15 (fun w i M => aI (M 15 w i 1))),
  (false, 13, 3, sPut 15 1),
  (false, 16, 1, sLdA 0),
  (false, 17, 1, sLdA 1),
  (false, 18, 3, sGet 15 (fun w i M => aI (M 15 w i 2))),
  (false, 21, 3, sPut 15 2),
  (false, 24, 1, sLdA 0),
  (false, 25, 1, sLdA 1),
  (false, 26, 3, sGet 15 (fun w i M => aI (M 15 w i 3))),
  (false, 29, 3, sPut 15 3),
  (false, 32, 1, sLdA 0),
  (false, 33, 1, sLdA 1),
  (false, 34, 3, sGet 15 (fun w i M => aI (M 15 w i 4))),
  (false, 37, 3, sPut 15 4),
  (false, 40, 1, sLdA 0),
  (false, 41, 1, sLdA 1),
  (false, 42, 3, sGet 15 (fun w i M => aI (M 15 w i 5))),
  (false, 45, 3, sPut 15 5),
  (false, 48, 1, sLdA 0),
  (false, 49, 1, sLdA 1),
  (false, 50, 3, sGet 15 (fun w i M => aI (M 15 w i 6))),
  (false, 53, 3, sPut 15 6),
  (false, 56, 1, sLdA 0),
  (false, 57, 1, sLdA 1),
  (false, 58, 3, sGet 15 (fun w i M => aI (M 15 w i 7))),
  (false, 61, 3, sPut 15 7),
  (false, 64, 1, sLdA 0),
  (false, 65, 1, sLdA 1),
  (false, 66, 3, sGet 15 (fun w i M => aI (M 15 w i 8))),
  (false, 69, 3, sPut 15 8),
  (false, 72, 1, sLdA 0),
  (false, 73, 1, sLdA 1),
  (false, 74, 3, sGet 15 (fun w i M => aI (M 15 w i 9))),
  (false, 77, 3, sPut 15 9),
  (false, 80, 1, sLdA 0),
  (false, 81, 1, sLdA 1),
  (false, 82, 3, sGet 15 (fun w i M => aI (M 15 w i 10))),
  (false, 85, 3, sPut 15 10),
  (false, 88, 1, sLdA 0),
  (false, 89, 1, sLdA 1),
  (false, 90, 3, sGet 15 (fun w i M => aI (M 15 w i 11))),
  (false, 93, 3, sPutZ 15 11),
  (false, 96, 1, sRetV)]
theorem oB_copy {E : EV} (hsd : E.2.2.2 = 0) (l : Launch) : AllOK E l 1 "FreeLances$Bond" prog_2_method_3_code 2 none outV (cB_copy) := by
  refine ak (ok_aload_n (k := 0) rfl (by decide +kernel)) ?_
  refine ak (ok_aload_n (k := 1) rfl (by decide +kernel)) ?_
  refine ak (ok_get (k := 0) ck0 kd15 (by decide) (fun _ _ _ => rfl) (fun _ _ _ _ _ => trivial) tw324 (by decide +kernel)) ?_
  refine ak (ok_put (k := 0) ck0 kd15 (by decide) (fun _ _ _ => rfl) rfl rfl (by decide) tw324 (by decide +kernel)) ?_
  refine ak (ok_aload_n (k := 0) rfl (by decide +kernel)) ?_
  refine ak (ok_aload_n (k := 1) rfl (by decide +kernel)) ?_
  refine ak (ok_get (k := 1) ck0 kd15 (by decide) (fun _ _ _ => rfl) (fun _ _ _ _ _ => trivial) tw327 (by decide +kernel)) ?_
  refine ak (ok_put (k := 1) ck0 kd15 (by decide) (fun _ _ _ => rfl) rfl rfl (by decide) tw327 (by decide +kernel)) ?_
  refine ak (ok_aload_n (k := 0) rfl (by decide +kernel)) ?_
  refine ak (ok_aload_n (k := 1) rfl (by decide +kernel)) ?_
  refine ak (ok_get (k := 2) ck0 kd15 (by decide) (fun _ _ _ => rfl) (fun _ _ _ _ _ => trivial) tw330 (by decide +kernel)) ?_
  refine ak (ok_put (k := 2) ck0 kd15 (by decide) (fun _ _ _ => rfl) rfl rfl (by decide) tw330 (by decide +kernel)) ?_
  refine ak (ok_aload_n (k := 0) rfl (by decide +kernel)) ?_
  refine ak (ok_aload_n (k := 1) rfl (by decide +kernel)) ?_
  refine ak (ok_get (k := 3) ck0 kd15 (by decide) (fun _ _ _ => rfl) (fun _ _ _ _ _ => trivial) tw333 (by decide +kernel)) ?_
  refine ak (ok_put (k := 3) ck0 kd15 (by decide) (fun _ _ _ => rfl) rfl rfl (by decide) tw333 (by decide +kernel)) ?_
  refine ak (ok_aload_n (k := 0) rfl (by decide +kernel)) ?_
  refine ak (ok_aload_n (k := 1) rfl (by decide +kernel)) ?_
  refine ak (ok_get (k := 4) ck0 kd15 (by decide) (fun _ _ _ => rfl) (fun _ _ _ _ _ => trivial) tw336 (by decide +kernel)) ?_
  refine ak (ok_put (k := 4) ck0 kd15 (by decide) (fun _ _ _ => rfl) rfl rfl (by decide) tw336 (by decide +kernel)) ?_
  refine ak (ok_aload_n (k := 0) rfl (by decide +kernel)) ?_
  refine ak (ok_aload_n (k := 1) rfl (by decide +kernel)) ?_
  refine ak (ok_get (k := 5) ck0 kd15 (by decide) (fun _ _ _ => rfl) (fun _ _ _ _ _ => trivial) tw339 (by decide +kernel)) ?_
  refine ak (ok_put (k := 5) ck0 kd15 (by decide) (fun _ _ _ => rfl) rfl rfl (by decide) tw339 (by decide +kernel)) ?_
  refine ak (ok_aload_n (k := 0) rfl (by decide +kernel)) ?_
  refine ak (ok_aload_n (k := 1) rfl (by decide +kernel)) ?_
  refine ak (ok_get (k := 6) ck0 kd15 (by decide) (fun _ _ _ => rfl) (fun _ _ _ _ _ => trivial) tw342 (by decide +kernel)) ?_
  refine ak (ok_put (k := 6) ck0 kd15 (by decide) (fun _ _ _ => rfl) rfl rfl (by decide) tw342 (by decide +kernel)) ?_
  refine ak (ok_aload_n (k := 0) rfl (by decide +kernel)) ?_
  refine ak (ok_aload_n (k := 1) rfl (by decide +kernel)) ?_
  refine ak (ok_get (k := 7) ck0 kd15 (by decide) (fun _ _ _ => rfl) (fun _ _ _ _ _ => trivial) tw345 (by decide +kernel)) ?_
  refine ak (ok_put (k := 7) ck0 kd15 (by decide) (fun _ _ _ => rfl) rfl rfl (by decide) tw345 (by decide +kernel)) ?_
  refine ak (ok_aload_n (k := 0) rfl (by decide +kernel)) ?_
  refine ak (ok_aload_n (k := 1) rfl (by decide +kernel)) ?_
  refine ak (ok_get (k := 8) ck0 kd15 (by decide) (fun _ _ _ => rfl) (fun _ _ _ _ _ => trivial) tw348 (by decide +kernel)) ?_
  refine ak (ok_put (k := 8) ck0 kd15 (by decide) (fun _ _ _ => rfl) rfl rfl (by decide) tw348 (by decide +kernel)) ?_
  refine ak (ok_aload_n (k := 0) rfl (by decide +kernel)) ?_
  refine ak (ok_aload_n (k := 1) rfl (by decide +kernel)) ?_
  refine ak (ok_get (k := 9) ck0 kd15 (by decide) (fun _ _ _ => rfl) (fun _ _ _ _ _ => trivial) tw351 (by decide +kernel)) ?_
  refine ak (ok_put (k := 9) ck0 kd15 (by decide) (fun _ _ _ => rfl) rfl rfl (by decide) tw351 (by decide +kernel)) ?_
  refine ak (ok_aload_n (k := 0) rfl (by decide +kernel)) ?_
  refine ak (ok_aload_n (k := 1) rfl (by decide +kernel)) ?_
  refine ak (ok_get (k := 10) ck0 kd15 (by decide) (fun _ _ _ => rfl) (fun _ _ _ _ _ => trivial) tw354 (by decide +kernel)) ?_
  refine ak (ok_put (k := 10) ck0 kd15 (by decide) (fun _ _ _ => rfl) rfl rfl (by decide) tw354 (by decide +kernel)) ?_
  refine ak (ok_aload_n (k := 0) rfl (by decide +kernel)) ?_
  refine ak (ok_aload_n (k := 1) rfl (by decide +kernel)) ?_
  refine ak (ok_get (k := 11) ck0 kd15 (by decide) (fun _ _ _ => rfl) (fun _ _ _ _ _ => trivial) tw357 (by decide +kernel)) ?_
  refine ak (ok_putZ (k := 11) ck0 kd15 (by decide) (fun _ _ _ => rfl) rfl rfl (by decide) tw357 (by decide +kernel)) ?_
  refine ak (ok_return rfl (by decide +kernel)) ?_
  exact trivial
set_option maxRecDepth 1000000 in
theorem eB_copy (w0 : Nat) (i0 : Nat) (w1 : Nat) (i1 : Nat) (M : Mem) : run (cB_copy) (fun _ _ _ _ => none) rtV 400 (seek (cB_copy) 0) [aR (15, w0, i0), aR (15, w1, i1)] [] M = mB_copy w0 i0 w1 i1 M := id rfl
theorem lB_copy {E : EV} {l : Launch} {p : Program} {e : Env} {s : State} {m : MethodId} {args : Array Value} {below : List Frame} {meth : Method} {c : Code} (A : AllOK E l 1 "FreeLances$Bond" prog_2_method_3_code 2 none outV (cB_copy)) (C : Cx E p s m args meth c "FreeLances$Bond" prog_2_method_3_code 2 none) : ∀ (w0 : Nat) (i0 : Nat) (w1 : Nat) (i1 : Nat) (M : Mem) (res : Mem), mB_copy w0 i0 w1 i1 M = some res → Wm E p l e 1 s m args below meth c 2 0 [aR (15, w0, i0), aR (15, w1, i1)] [] M (outV res).1 (outV res).2 := by
  intro w0 i0 w1 i1 M res h
  refine run_at C A rfl hrtV (n := 400) ((eB_copy w0 i0 w1 i1 M).trans h) ?_
  intro t als st M hk; cases hk
def dB_copy {β : Type} : Den β := fun as M k => match as with
  | [.inr (.inr (.inl (al0, w0, i0))), .inr (.inr (.inl (al1, w1, i1)))] => if al0 = 15 ∧ al1 = 15 then (mB_copy w0 i0 w1 i1 M).bind fun q => k aU q else none
  | _ => none
theorem wB_copy {E : EV} (hsd : E.2.2.2 = 0) (l : Launch) (w0 : Nat) (i0 : Nat) (w1 : Nat) (i1 : Nat) (M : Mem) (q : Mem) (hq : mB_copy w0 i0 w1 i1 M = some q) : Con E l 1 yB_copy prog_2_method_3_code 2 none [aR (15, w0, i0), aR (15, w1, i1)] M (outV q).1 (outV q).2 := by
  refine con_of iB_copy (Nat.le_of_ble_eq_true rfl) ?_
  intro p e s m args below meth c C
  exact lB_copy (oB_copy hsd l) C w0 i0 w1 i1 M _ hq
theorem kB_copy {E : EV} (hsd : E.2.2.2 = 0) (l : Launch) {β : Type} : DenOK E l 1 yB_copy prog_2_method_3_code 2 none false (dB_copy (β := β)) := by
  intro as M k res h
  unfold dB_copy at h
  split at h
  ·
    split at h
    · rename_i hc
      obtain ⟨rfl, rfl⟩ := hc
      obtain ⟨q, hq, hk⟩ := Option.bind_eq_some_iff.mp h
      exact ⟨aU, q, hk, rfl, wB_copy hsd l _ _ _ _ M q hq⟩
    · cases h
  · cases h
theorem qB_copy {β : Type} : RecOK 15 (dB_copy (β := β)) := by
  intro as M k res h
  unfold dB_copy at h
  split at h
  ·
    split at h
    · rename_i hc
      obtain ⟨rfl, rfl⟩ := hc
      exact ⟨_, _, _, rfl⟩
    · cases h
  · cases h
/-! ===== FreeLances$World.copy(LFreeLances$World;)V ===== -/
abbrev yW_copy : MethodName := ⟨"FreeLances$World", "copy", "(LFreeLances$World;)V"⟩
theorem iW_copy : MI yW_copy prog_11_method_2_code 3 none 1 := ⟨tw1103, tw98, ⟨by decide, by decide⟩, by decide +kernel, by decide, by decide⟩
def cW_copy : List (Ent Mem) := [(false, 0, 1, sLdA 0),
  (false, 1, 1, sLdA 1),
  (false, 2, 3, sGet 1 (fun w i M => aI (M 1 w i 0))),
  (false, 5, 3, sPut 1 0),
  (false, 8, 1, sLdA 0),
  (false, 9, 1, sLdA 1),
  (false, 10, 3, sGet 1 (fun w i M => aI (M 1 w i 2))),
  (false, 13, 3, sPut 1 2),
  (false, 16, 1, sLdA 0),
  (false, 17, 1, sLdA 1),
  (false, 18, 3, sGet 1 (fun w i M => aI (M 1 w i 3))),
  (false, 21, 3, sPut 1 3),
  (false, 24, 1, sLdA 0),
  (false, 25, 1, sLdA 1),
  (false, 26, 3, sGet 1 (fun w i M => aI (M 1 w i 6))),
  (false, 29, 3, sPut 1 6),
  (false, 32, 1, sLdA 0),
  (false, 33, 1, sLdA 1),
  (false, 34, 3, sGet 1 (fun w i M => aI (M 1 w i 8))),
  (false, 37, 3, sPut 1 8),
  (false, 40, 1, sLdA 0),
  (false, 41, 1, sLdA 1),
  (false, 42, 3, sGet 1 (fun w i M => aI (M 1 w i 10))),
  (false, 45, 3, sPut 1 10),
  (false, 48, 1, sLdA 0),
  (false, 49, 1, sLdA 1),
  (false, 50, 3, sGet 1 (fun w i M => aI (M 1 w i 12))),
  (false, 53, 3, sPut 1 12),
  (false, 56, 1, sLdA 0),
  (false, 57, 1, sLdA 1),
  (false, 58, 3, sGet 1 (fun w i M => aI (M 1 w i 14))),
  (false, 61, 3, sPut 1 14),
  (false, 64, 1, sLdA 0),
  (false, 65, 1, sLdA 1),
  (false, 66, 3, sGet 1 (fun w i M => aI (M 1 w i 16))),
  (false, 69, 3, sPut 1 16),
  (false, 72, 1, sLdA 1),
  (false, 73, 3, sGet 1 (fun w i M => aR (4, w, 0))),
  (false, 76, 1, sC 0),
  (false, 77, 1, sLdA 0),
  (false, 78, 3, sGet 1 (fun w i M => aR (4, w, 0))),
  (false, 81, 1, sC 0),
  (false, 82, 2, sC 64),
  (false, 84, 3, sCopy 4 (fun _ => 64)),
  (false, 87, 1, sLdA 1),
  (false, 88, 3, sGet 1 (fun w i M => aR (13, w, 12))),
  (false, 91, 1, sC 0),
  (false, 92, 1, sLdA 0),
  (false, 93, 3, sGet 1 (fun w i M => aR (13, w, 12))),
  (false, 96, 1, sC 0),
  (false, 97, 2, sC 50),
  (false, 99, 3, sCopy 13 lenB),
  (false, 102, 1, sLdA 1),
  (false, 103, 3, sGet 1 (fun w i M => aR (16, w, 0))),
  (false, 106, 1, sC 0),
  (false, 107, 1, sLdA 0),
  (false, 108, 3, sGet 1 (fun w i M => aR (16, w, 0))),
  (false, 111, 1, sC 0),
  (false, 112, 2, sC 20),
  (false, 114, 3, sCopy 16 (fun _ => 20)),
  (false, 117, 1, sC 0),
  (false, 118, 1, sStI 2),
  (true, 119, 1, sLdI 2),
  (false, 120, 1, sLdA 0),
  (false, 121, 3, sGet 1 (fun w i M => aI (M 1 w i 2))),
  (false, 124, 3, sCmpGe 148),
  (false, 127, 1, sLdA 0),
  (false, 128, 3, sGet 1 (fun w i M => aR (2, w, 0))),
  (false, 131, 1, sLdI 2),
  (false, 132, 1, sAald 2 8 3),
  (false, 133, 1, sLdA 1),
  (false, 134, 3, sGet 1 (fun w i M => aR (2, w, 0))),
  (false, 137, 1, sLdI 2),
  (false, 138, 1, sAald 2 8 3),
  (false, 139, 3, sInv 2 false dT_copy),
  (false, 142, 3, sInc 2 1),
  (false, 145, 3, sGoto 119),
  (false, 148, 1, sC 0),
  (false, 149, 1, sStI 2),
  (true, 150, 1, sLdI 2),
  (false, 151, 1, sLdA 0),
  (false, 152, 3, sGet 1 (fun w i M => aI (M 1 w i 6))),
  (false, 155, 3, sCmpGe 179),
  (false, 158, 1, sLdA 0),
  (false, 159, 3, sGet 1 (fun w i M => aR (5, w, 0))),
  (false, 162, 1, sLdI 2),
  (false, 163, 1, sAald 5 5 6),
  (false, 164, 1, sLdA 1),
  (false, 165, 3, sGet 1 (fun w i M => aR (5, w, 0))),
  (false, 168, 1, sLdI 2),
  (false, 169, 1, sAald 5 5 6),
  (false, 170, 3, sInv 2 false dC_copy),
  (false, 173, 3, sInc 2 1),
  (false, 176, 3, sGoto 150),
  (false, 179, 1, sC 0),
  (false, 180, 1, sStI 2),
  (true, 181, 1, sLdI 2),
  (false, 182, 1, sLdA 0),
  (false, 183, 3, sGet 1 (fun w i M => aI (M 1 w i 8))),
  (false, 186, 3, sCmpGe 210),
  (false, 189, 1, sLdA 0),
  (false, 190, 3, sGet 1 (fun w i M => aR (9, w, 0))),
  (false, 193, 1, sLdI 2),
  (false, 194, 1, sAald 9 40 10),
  (false, 195, 1, sLdA 1),
  (false, 196, 3, sGet 1 (fun w i M => aR (9, w, 0))),
  (false, 199, 1, sLdI 2),
  (false, 200, 1, sAald 9 40 10),
  (false, 201, 3, sInv 2 false dL_copy),
  (false, 204, 3, sInc 2 1),
  (false, 207, 3, sGoto 181),
  (false, 210, 1, sC 0),
  (false, 211, 1, sStI 2),
  (true, 212, 1, sLdI 2),
  (false, 213, 1, sLdA 0),
  (false, 214, 3, sGet 1 (fun w i M => aI (M 1 w i 10))),
  (false, 217, 3, sCmpGe 241),
  (false, 220, 1, sLdA 0),
  (false, 221, 3, sGet 1 (fun w i M => aR (11, w, 0))),
  (false, 224, 1, sLdI 2),
  (false, 225, 1, sAald 11 12 12),
  (false, 226, 1, sLdA 1),
  (false, 227, 3, sGet 1 (fun w i M => aR (11, w, 0))),
  (false, 230, 1, sLdI 2),
  (false, 231, 1, sAald 11 12 12),
  (false, 232, 3, sInv 2 false dU_copy),
  (false, 235, 3, sInc 2 1),
  (false, 238, 3, sGoto 212),
  (false, 241, 1, sC 0),
  (false, 242, 1, sStI 2),
  (true, 243, 1, sLdI 2),
  (false, 244, 1, sLdA 0),
  (false, 245, 3, sGet 1 (fun w i M => aI (M 1 w i 12))),
  (false, 248, 3, sCmpGe 272),
  (false, 251, 1, sLdA 0),
  (false, 252, 3, sGet 1 (fun w i M => aR (14, w, 0))),
  (false, 255, 1, sLdI 2),
  (false, 256, 1, sAald 14 24 15),
  (false, 257, 1, sLdA 1),
  (false, 258, 3, sGet 1 (fun w i M => aR (14, w, 0))),
  (false, 261, 1, sLdI 2),
  (false, 262, 1, sAald 14 24 15),
  (false, 263, 3, sInv 2 false dB_copy),
  (false, 266, 3, sInc 2 1),
  (false, 269, 3, sGoto 243),
  (false, 272, 1, sRetV)]
theorem oW_copy {E : EV} (hsd : E.2.2.2 = 0) (l : Launch) : AllOK E l 3 "FreeLances$World" prog_11_method_2_code 3 none outV (cW_copy) := by
  refine ak (ok_aload_n (k := 0) rfl (by decide +kernel)) ?_
  refine ak (ok_aload_n (k := 1) rfl (by decide +kernel)) ?_
  refine ak (ok_get (k := 0) ck9 kd1 (by decide) (fun _ _ _ => rfl) (fun _ _ _ _ _ => trivial) tw386 (by decide +kernel)) ?_
  refine ak (ok_put (k := 0) ck9 kd1 (by decide) (fun _ _ _ => rfl) rfl rfl (by decide) tw386 (by decide +kernel)) ?_
  refine ak (ok_aload_n (k := 0) rfl (by decide +kernel)) ?_
  refine ak (ok_aload_n (k := 1) rfl (by decide +kernel)) ?_
  refine ak (ok_get (k := 2) ck9 kd1 (by decide) (fun _ _ _ => rfl) (fun _ _ _ _ _ => trivial) tw390 (by decide +kernel)) ?_
  refine ak (ok_put (k := 2) ck9 kd1 (by decide) (fun _ _ _ => rfl) rfl rfl (by decide) tw390 (by decide +kernel)) ?_
  refine ak (ok_aload_n (k := 0) rfl (by decide +kernel)) ?_
  refine ak (ok_aload_n (k := 1) rfl (by decide +kernel)) ?_
  refine ak (ok_get (k := 3) ck9 kd1 (by decide) (fun _ _ _ => rfl) (fun _ _ _ _ _ => trivial) tw393 (by decide +kernel)) ?_
  refine ak (ok_put (k := 3) ck9 kd1 (by decide) (fun _ _ _ => rfl) rfl rfl (by decide) tw393 (by decide +kernel)) ?_
  refine ak (ok_aload_n (k := 0) rfl (by decide +kernel)) ?_
  refine ak (ok_aload_n (k := 1) rfl (by decide +kernel)) ?_
  refine ak (ok_get (k := 6) ck9 kd1 (by decide) (fun _ _ _ => rfl) (fun _ _ _ _ _ => trivial) tw399 (by decide +kernel)) ?_
  refine ak (ok_put (k := 6) ck9 kd1 (by decide) (fun _ _ _ => rfl) rfl rfl (by decide) tw399 (by decide +kernel)) ?_
  refine ak (ok_aload_n (k := 0) rfl (by decide +kernel)) ?_
  refine ak (ok_aload_n (k := 1) rfl (by decide +kernel)) ?_
  refine ak (ok_get (k := 8) ck9 kd1 (by decide) (fun _ _ _ => rfl) (fun _ _ _ _ _ => trivial) tw404 (by decide +kernel)) ?_
  refine ak (ok_put (k := 8) ck9 kd1 (by decide) (fun _ _ _ => rfl) rfl rfl (by decide) tw404 (by decide +kernel)) ?_
  refine ak (ok_aload_n (k := 0) rfl (by decide +kernel)) ?_
  refine ak (ok_aload_n (k := 1) rfl (by decide +kernel)) ?_
  refine ak (ok_get (k := 10) ck9 kd1 (by decide) (fun _ _ _ => rfl) (fun _ _ _ _ _ => trivial) tw408 (by decide +kernel)) ?_
  refine ak (ok_put (k := 10) ck9 kd1 (by decide) (fun _ _ _ => rfl) rfl rfl (by decide) tw408 (by decide +kernel)) ?_
  refine ak (ok_aload_n (k := 0) rfl (by decide +kernel)) ?_
  refine ak (ok_aload_n (k := 1) rfl (by decide +kernel)) ?_
  refine ak (ok_get (k := 12) ck9 kd1 (by decide) (fun _ _ _ => rfl) (fun _ _ _ _ _ => trivial) tw412 (by decide +kernel)) ?_
  refine ak (ok_put (k := 12) ck9 kd1 (by decide) (fun _ _ _ => rfl) rfl rfl (by decide) tw412 (by decide +kernel)) ?_
  refine ak (ok_aload_n (k := 0) rfl (by decide +kernel)) ?_
  refine ak (ok_aload_n (k := 1) rfl (by decide +kernel)) ?_
  refine ak (ok_get (k := 14) ck9 kd1 (by decide) (fun _ _ _ => rfl) (fun _ _ _ _ _ => trivial) tw416 (by decide +kernel)) ?_
  refine ak (ok_put (k := 14) ck9 kd1 (by decide) (fun _ _ _ => rfl) rfl rfl (by decide) tw416 (by decide +kernel)) ?_
  refine ak (ok_aload_n (k := 0) rfl (by decide +kernel)) ?_
  refine ak (ok_aload_n (k := 1) rfl (by decide +kernel)) ?_
  refine ak (ok_get (k := 16) ck9 kd1 (by decide) (fun _ _ _ => rfl) (fun _ _ _ _ _ => trivial) tw420 (by decide +kernel)) ?_
  refine ak (ok_put (k := 16) ck9 kd1 (by decide) (fun _ _ _ => rfl) rfl rfl (by decide) tw420 (by decide +kernel)) ?_
  refine ak (ok_aload_n (k := 1) rfl (by decide +kernel)) ?_
  refine ak (ok_get (k := 4) ck9 kd1 (by decide) (fun _ _ _ => rfl) (vf_1_4 hsd) tw395 (by decide +kernel)) ?_
  refine ak (ok_iconst (n := 0) (by decide) (by decide +kernel)) ?_
  refine ak (ok_aload_n (k := 0) rfl (by decide +kernel)) ?_
  refine ak (ok_get (k := 4) ck9 kd1 (by decide) (fun _ _ _ => rfl) (vf_1_4 hsd) tw395 (by decide +kernel)) ?_
  refine ak (ok_iconst (n := 0) (by decide) (by decide +kernel)) ?_
  refine ak (ok_bipush (n := 64) (by decide) (by decide +kernel)) ?_
  refine ak (ok_copyI kd4 (by decide) (by decide) (by decide) tw1104 tw790 tw789 tw110 (by decide +kernel)) ?_
  refine ak (ok_aload_n (k := 1) rfl (by decide +kernel)) ?_
  refine ak (ok_get (k := 13) ck9 kd1 (by decide) (fun _ _ _ => rfl) (vf_1_13 hsd) tw414 (by decide +kernel)) ?_
  refine ak (ok_iconst (n := 0) (by decide) (by decide +kernel)) ?_
  refine ak (ok_aload_n (k := 0) rfl (by decide +kernel)) ?_
  refine ak (ok_get (k := 13) ck9 kd1 (by decide) (fun _ _ _ => rfl) (vf_1_13 hsd) tw414 (by decide +kernel)) ?_
  refine ak (ok_iconst (n := 0) (by decide) (by decide +kernel)) ?_
  refine ak (ok_bipush (n := 50) (by decide) (by decide +kernel)) ?_
  refine ak (ok_copyB (by decide) tw1104 tw790 tw789 tw110 (by decide +kernel)) ?_
  refine ak (ok_aload_n (k := 1) rfl (by decide +kernel)) ?_
  refine ak (ok_get (k := 15) ck9 kd1 (by decide) (fun _ _ _ => rfl) (vf_1_15 hsd) tw418 (by decide +kernel)) ?_
  refine ak (ok_iconst (n := 0) (by decide) (by decide +kernel)) ?_
  refine ak (ok_aload_n (k := 0) rfl (by decide +kernel)) ?_
  refine ak (ok_get (k := 15) ck9 kd1 (by decide) (fun _ _ _ => rfl) (vf_1_15 hsd) tw418 (by decide +kernel)) ?_
  refine ak (ok_iconst (n := 0) (by decide) (by decide +kernel)) ?_
  refine ak (ok_bipush (n := 20) (by decide) (by decide +kernel)) ?_
  refine ak (ok_copyI kd16 (by decide) (by decide) (by decide) tw1104 tw790 tw789 tw110 (by decide +kernel)) ?_
  refine ak (ok_iconst (n := 0) (by decide) (by decide +kernel)) ?_
  refine ak (ok_istore_n (k := 2) rfl (by decide) (by decide +kernel)) ?_
  refine ak (ok_iload_n (k := 2) rfl (by decide +kernel)) ?_
  refine ak (ok_aload_n (k := 0) rfl (by decide +kernel)) ?_
  refine ak (ok_get (k := 2) ck9 kd1 (by decide) (fun _ _ _ => rfl) (fun _ _ _ _ _ => trivial) tw390 (by decide +kernel)) ?_
  refine ak (ok_icmp_ge (off := 24) (by decide) (by decide +kernel)) ?_
  refine ak (ok_aload_n (k := 0) rfl (by decide +kernel)) ?_
  refine ak (ok_get (k := 1) ck9 kd1 (by decide) (fun _ _ _ => rfl) (vf_1_1 hsd) tw388 (by decide +kernel)) ?_
  refine ak (ok_iload_n (k := 2) rfl (by decide +kernel)) ?_
  refine ak (ok_aald (t0 := 2) (C := RX7) kd2 (by decide) rfl (vr_2 hsd) (by decide +kernel)) ?_
  refine ak (ok_aload_n (k := 1) rfl (by decide +kernel)) ?_
  refine ak (ok_get (k := 1) ck9 kd1 (by decide) (fun _ _ _ => rfl) (vf_1_1 hsd) tw388 (by decide +kernel)) ?_
  refine ak (ok_iload_n (k := 2) rfl (by decide +kernel)) ?_
  refine ak (ok_aald (t0 := 2) (C := RX7) kd2 (by decide) rfl (vr_2 hsd) (by decide +kernel)) ?_
  refine ak (ok_invV (r := 3) (kT_copy hsd l) qT_copy ck7 kd3 iT_copy tw1106 tw1107 (by decide) tw1105 (by decide +kernel)) ?_
  refine ak (ok_iinc (n := 1) (by decide) (by decide) (by decide +kernel)) ?_
  refine ak (ok_goto (off := (-26)) (by decide) (by decide +kernel)) ?_
  refine ak (ok_iconst (n := 0) (by decide) (by decide +kernel)) ?_
  refine ak (ok_istore_n (k := 2) rfl (by decide) (by decide +kernel)) ?_
  refine ak (ok_iload_n (k := 2) rfl (by decide +kernel)) ?_
  refine ak (ok_aload_n (k := 0) rfl (by decide +kernel)) ?_
  refine ak (ok_get (k := 6) ck9 kd1 (by decide) (fun _ _ _ => rfl) (fun _ _ _ _ _ => trivial) tw399 (by decide +kernel)) ?_
  refine ak (ok_icmp_ge (off := 24) (by decide) (by decide +kernel)) ?_
  refine ak (ok_aload_n (k := 0) rfl (by decide +kernel)) ?_
  refine ak (ok_get (k := 5) ck9 kd1 (by decide) (fun _ _ _ => rfl) (vf_1_5 hsd) tw396 (by decide +kernel)) ?_
  refine ak (ok_iload_n (k := 2) rfl (by decide +kernel)) ?_
  refine ak (ok_aald (t0 := 3) (C := RX1) kd5 (by decide) rfl (vr_5 hsd) (by decide +kernel)) ?_
  refine ak (ok_aload_n (k := 1) rfl (by decide +kernel)) ?_
  refine ak (ok_get (k := 5) ck9 kd1 (by decide) (fun _ _ _ => rfl) (vf_1_5 hsd) tw396 (by decide +kernel)) ?_
  refine ak (ok_iload_n (k := 2) rfl (by decide +kernel)) ?_
  refine ak (ok_aald (t0 := 3) (C := RX1) kd5 (by decide) rfl (vr_5 hsd) (by decide +kernel)) ?_
  refine ak (ok_invV (r := 6) (kC_copy hsd l) qC_copy ck1 kd6 iC_copy tw1110 tw1111 (by decide) tw1109 (by decide +kernel)) ?_
  refine ak (ok_iinc (n := 1) (by decide) (by decide) (by decide +kernel)) ?_
  refine ak (ok_goto (off := (-26)) (by decide) (by decide +kernel)) ?_
  refine ak (ok_iconst (n := 0) (by decide) (by decide +kernel)) ?_
  refine ak (ok_istore_n (k := 2) rfl (by decide) (by decide +kernel)) ?_
  refine ak (ok_iload_n (k := 2) rfl (by decide +kernel)) ?_
  refine ak (ok_aload_n (k := 0) rfl (by decide +kernel)) ?_
  refine ak (ok_get (k := 8) ck9 kd1 (by decide) (fun _ _ _ => rfl) (fun _ _ _ _ _ => trivial) tw404 (by decide +kernel)) ?_
  refine ak (ok_icmp_ge (off := 24) (by decide) (by decide +kernel)) ?_
  refine ak (ok_aload_n (k := 0) rfl (by decide +kernel)) ?_
  refine ak (ok_get (k := 7) ck9 kd1 (by decide) (fun _ _ _ => rfl) (vf_1_7 hsd) tw402 (by decide +kernel)) ?_
  refine ak (ok_iload_n (k := 2) rfl (by decide +kernel)) ?_
  refine ak (ok_aald (t0 := 4) (C := RX2) kd9 (by decide) rfl (vr_9 hsd) (by decide +kernel)) ?_
  refine ak (ok_aload_n (k := 1) rfl (by decide +kernel)) ?_
  refine ak (ok_get (k := 7) ck9 kd1 (by decide) (fun _ _ _ => rfl) (vf_1_7 hsd) tw402 (by decide +kernel)) ?_
  refine ak (ok_iload_n (k := 2) rfl (by decide +kernel)) ?_
  refine ak (ok_aald (t0 := 4) (C := RX2) kd9 (by decide) rfl (vr_9 hsd) (by decide +kernel)) ?_
  refine ak (ok_invV (r := 10) (kL_copy hsd l) qL_copy ck2 kd10 iL_copy tw1115 tw1116 (by decide) tw1114 (by decide +kernel)) ?_
  refine ak (ok_iinc (n := 1) (by decide) (by decide) (by decide +kernel)) ?_
  refine ak (ok_goto (off := (-26)) (by decide) (by decide +kernel)) ?_
  refine ak (ok_iconst (n := 0) (by decide) (by decide +kernel)) ?_
  refine ak (ok_istore_n (k := 2) rfl (by decide) (by decide +kernel)) ?_
  refine ak (ok_iload_n (k := 2) rfl (by decide +kernel)) ?_
  refine ak (ok_aload_n (k := 0) rfl (by decide +kernel)) ?_
  refine ak (ok_get (k := 10) ck9 kd1 (by decide) (fun _ _ _ => rfl) (fun _ _ _ _ _ => trivial) tw408 (by decide +kernel)) ?_
  refine ak (ok_icmp_ge (off := 24) (by decide) (by decide +kernel)) ?_
  refine ak (ok_aload_n (k := 0) rfl (by decide +kernel)) ?_
  refine ak (ok_get (k := 9) ck9 kd1 (by decide) (fun _ _ _ => rfl) (vf_1_9 hsd) tw406 (by decide +kernel)) ?_
  refine ak (ok_iload_n (k := 2) rfl (by decide +kernel)) ?_
  refine ak (ok_aald (t0 := 5) (C := RX6) kd11 (by decide) rfl (vr_11 hsd) (by decide +kernel)) ?_
  refine ak (ok_aload_n (k := 1) rfl (by decide +kernel)) ?_
  refine ak (ok_get (k := 9) ck9 kd1 (by decide) (fun _ _ _ => rfl) (vf_1_9 hsd) tw406 (by decide +kernel)) ?_
  refine ak (ok_iload_n (k := 2) rfl (by decide +kernel)) ?_
  refine ak (ok_aald (t0 := 5) (C := RX6) kd11 (by decide) rfl (vr_11 hsd) (by decide +kernel)) ?_
  refine ak (ok_invV (r := 12) (kU_copy hsd l) qU_copy ck6 kd12 iU_copy tw1119 tw1120 (by decide) tw1118 (by decide +kernel)) ?_
  refine ak (ok_iinc (n := 1) (by decide) (by decide) (by decide +kernel)) ?_
  refine ak (ok_goto (off := (-26)) (by decide) (by decide +kernel)) ?_
  refine ak (ok_iconst (n := 0) (by decide) (by decide +kernel)) ?_
  refine ak (ok_istore_n (k := 2) rfl (by decide) (by decide +kernel)) ?_
  refine ak (ok_iload_n (k := 2) rfl (by decide +kernel)) ?_
  refine ak (ok_aload_n (k := 0) rfl (by decide +kernel)) ?_
  refine ak (ok_get (k := 12) ck9 kd1 (by decide) (fun _ _ _ => rfl) (fun _ _ _ _ _ => trivial) tw412 (by decide +kernel)) ?_
  refine ak (ok_icmp_ge (off := 24) (by decide) (by decide +kernel)) ?_
  refine ak (ok_aload_n (k := 0) rfl (by decide +kernel)) ?_
  refine ak (ok_get (k := 11) ck9 kd1 (by decide) (fun _ _ _ => rfl) (vf_1_11 hsd) tw410 (by decide +kernel)) ?_
  refine ak (ok_iload_n (k := 2) rfl (by decide +kernel)) ?_
  refine ak (ok_aald (t0 := 6) (C := RX0) kd14 (by decide) rfl (vr_14 hsd) (by decide +kernel)) ?_
  refine ak (ok_aload_n (k := 1) rfl (by decide +kernel)) ?_
  refine ak (ok_get (k := 11) ck9 kd1 (by decide) (fun _ _ _ => rfl) (vf_1_11 hsd) tw410 (by decide +kernel)) ?_
  refine ak (ok_iload_n (k := 2) rfl (by decide +kernel)) ?_
  refine ak (ok_aald (t0 := 6) (C := RX0) kd14 (by decide) rfl (vr_14 hsd) (by decide +kernel)) ?_
  refine ak (ok_invV (r := 15) (kB_copy hsd l) qB_copy ck0 kd15 iB_copy tw1124 tw1125 (by decide) tw1123 (by decide +kernel)) ?_
  refine ak (ok_iinc (n := 1) (by decide) (by decide) (by decide +kernel)) ?_
  refine ak (ok_goto (off := (-26)) (by decide) (by decide +kernel)) ?_
  refine ak (ok_return rfl (by decide +kernel)) ?_
  exact trivial
def KW_copy_243 (j243 : Nat → Nat → Int32 → Mem → Option Mem) : Jm Mem := fun t als st M =>
  if t = 243 then (match als, st with
  | [.inr (.inr (.inl (al0, w0, cl0))), .inr (.inr (.inl (al1, w1, cl1))), .inl x2], [] => if al0 = 1 ∧ cl0 = 0 ∧ al1 = 1 ∧ cl1 = 0 then j243 w0 w1 x2 M else none
  | _, _ => none) else
  none
set_option maxRecDepth 1000000 in
theorem eW_copy_243 (j243 : Nat → Nat → Int32 → Mem → Option Mem) (w0 : Nat) (w1 : Nat) (x2 : Int32) (M : Mem) : run (cW_copy) (KW_copy_243 j243) rtV 400 (seek (cW_copy) 243) [aR (1, w0, 0), aR (1, w1, 0), aI x2] [] M = mW_copy_243b j243 w0 w1 x2 M := id rfl
theorem lW_copy_243 {E : EV} {l : Launch} {p : Program} {e : Env} {s : State} {m : MethodId} {args : Array Value} {below : List Frame} {meth : Method} {c : Code} (A : AllOK E l 3 "FreeLances$World" prog_11_method_2_code 3 none outV (cW_copy)) (C : Cx E p s m args meth c "FreeLances$World" prog_11_method_2_code 3 none) : ∀ (n : Nat), ∀ (w0 : Nat) (w1 : Nat) (x2 : Int32) (M : Mem) (res : Mem), mW_copy_243 n w0 w1 x2 M = some res → Wm E p l e 3 s m args below meth c 3 243 [aR (1, w0, 0), aR (1, w1, 0), aI x2] [] M (outV res).1 (outV res).2 := by
  intro n
  induction n with
  | zero => intro _ _ _ M res h; cases h
  | succ n ih =>
    intro w0 w1 x2 M res h
    refine run_at C A rfl hrtV (n := 400) ((eW_copy_243 (mW_copy_243 n) w0 w1 x2 M).trans h) ?_
    intro t als st M hk
    unfold KW_copy_243 at hk
    split at hk
    · rename_i ht
      subst ht
      split at hk
      · split at hk
        · rename_i hc
          obtain ⟨rfl, rfl, rfl, rfl⟩ := hc
          exact ih _ _ _ _ _ hk
        · cases hk
      · cases hk
    cases hk
def KW_copy_212 (j212 : Nat → Nat → Int32 → Mem → Option Mem) (j243 : Nat → Nat → Int32 → Mem → Option Mem) : Jm Mem := fun t als st M =>
  if t = 212 then (match als, st with
  | [.inr (.inr (.inl (al0, w0, cl0))), .inr (.inr (.inl (al1, w1, cl1))), .inl x2], [] => if al0 = 1 ∧ cl0 = 0 ∧ al1 = 1 ∧ cl1 = 0 then j212 w0 w1 x2 M else none
  | _, _ => none) else
  if t = 243 then (match als, st with
  | [.inr (.inr (.inl (al0, w0, cl0))), .inr (.inr (.inl (al1, w1, cl1))), .inl x2], [] => if al0 = 1 ∧ cl0 = 0 ∧ al1 = 1 ∧ cl1 = 0 then j243 w0 w1 x2 M else none
  | _, _ => none) else
  none
set_option maxRecDepth 1000000 in
theorem eW_copy_212 (j212 : Nat → Nat → Int32 → Mem → Option Mem) (j243 : Nat → Nat → Int32 → Mem → Option Mem) (w0 : Nat) (w1 : Nat) (x2 : Int32) (M : Mem) : run (cW_copy) (KW_copy_212 j212 j243) rtV 400 (seek (cW_copy) 212) [aR (1, w0, 0), aR (1, w1, 0), aI x2] [] M = mW_copy_212b j212 j243 w0 w1 x2 M := id rfl
theorem lW_copy_212 {E : EV} {l : Launch} {p : Program} {e : Env} {s : State} {m : MethodId} {args : Array Value} {below : List Frame} {meth : Method} {c : Code} (A : AllOK E l 3 "FreeLances$World" prog_11_method_2_code 3 none outV (cW_copy)) (C : Cx E p s m args meth c "FreeLances$World" prog_11_method_2_code 3 none) : ∀ (n : Nat), ∀ (w0 : Nat) (w1 : Nat) (x2 : Int32) (M : Mem) (res : Mem), mW_copy_212 n w0 w1 x2 M = some res → Wm E p l e 3 s m args below meth c 3 212 [aR (1, w0, 0), aR (1, w1, 0), aI x2] [] M (outV res).1 (outV res).2 := by
  intro n
  induction n with
  | zero => intro _ _ _ M res h; cases h
  | succ n ih =>
    intro w0 w1 x2 M res h
    refine run_at C A rfl hrtV (n := 400) ((eW_copy_212 (mW_copy_212 n) (mW_copy_243 fuel) w0 w1 x2 M).trans h) ?_
    intro t als st M hk
    unfold KW_copy_212 at hk
    split at hk
    · rename_i ht
      subst ht
      split at hk
      · split at hk
        · rename_i hc
          obtain ⟨rfl, rfl, rfl, rfl⟩ := hc
          exact ih _ _ _ _ _ hk
        · cases hk
      · cases hk
    split at hk
    · rename_i ht
      subst ht
      split at hk
      · split at hk
        · rename_i hc
          obtain ⟨rfl, rfl, rfl, rfl⟩ := hc
          exact lW_copy_243 A C _ _ _ _ _ _ hk
        · cases hk
      · cases hk
    cases hk
def KW_copy_181 (j181 : Nat → Nat → Int32 → Mem → Option Mem) (j212 : Nat → Nat → Int32 → Mem → Option Mem) : Jm Mem := fun t als st M =>
  if t = 181 then (match als, st with
  | [.inr (.inr (.inl (al0, w0, cl0))), .inr (.inr (.inl (al1, w1, cl1))), .inl x2], [] => if al0 = 1 ∧ cl0 = 0 ∧ al1 = 1 ∧ cl1 = 0 then j181 w0 w1 x2 M else none
  | _, _ => none) else
  if t = 212 then (match als, st with
  | [.inr (.inr (.inl (al0, w0, cl0))), .inr (.inr (.inl (al1, w1, cl1))), .inl x2], [] => if al0 = 1 ∧ cl0 = 0 ∧ al1 = 1 ∧ cl1 = 0 then j212 w0 w1 x2 M else none
  | _, _ => none) else
  none
set_option maxRecDepth 1000000 in
theorem eW_copy_181 (j181 : Nat → Nat → Int32 → Mem → Option Mem) (j212 : Nat → Nat → Int32 → Mem → Option Mem) (w0 : Nat) (w1 : Nat) (x2 : Int32) (M : Mem) : run (cW_copy) (KW_copy_181 j181 j212) rtV 400 (seek (cW_copy) 181) [aR (1, w0, 0), aR (1, w1, 0), aI x2] [] M = mW_copy_181b j181 j212 w0 w1 x2 M := id rfl
theorem lW_copy_181 {E : EV} {l : Launch} {p : Program} {e : Env} {s : State} {m : MethodId} {args : Array Value} {below : List Frame} {meth : Method} {c : Code} (A : AllOK E l 3 "FreeLances$World" prog_11_method_2_code 3 none outV (cW_copy)) (C : Cx E p s m args meth c "FreeLances$World" prog_11_method_2_code 3 none) : ∀ (n : Nat), ∀ (w0 : Nat) (w1 : Nat) (x2 : Int32) (M : Mem) (res : Mem), mW_copy_181 n w0 w1 x2 M = some res → Wm E p l e 3 s m args below meth c 3 181 [aR (1, w0, 0), aR (1, w1, 0), aI x2] [] M (outV res).1 (outV res).2 := by
  intro n
  induction n with
  | zero => intro _ _ _ M res h; cases h
  | succ n ih =>
    intro w0 w1 x2 M res h
    refine run_at C A rfl hrtV (n := 400) ((eW_copy_181 (mW_copy_181 n) (mW_copy_212 fuel) w0 w1 x2 M).trans h) ?_
    intro t als st M hk
    unfold KW_copy_181 at hk
    split at hk
    · rename_i ht
      subst ht
      split at hk
      · split at hk
        · rename_i hc
          obtain ⟨rfl, rfl, rfl, rfl⟩ := hc
          exact ih _ _ _ _ _ hk
        · cases hk
      · cases hk
    split at hk
    · rename_i ht
      subst ht
      split at hk
      · split at hk
        · rename_i hc
          obtain ⟨rfl, rfl, rfl, rfl⟩ := hc
          exact lW_copy_212 A C _ _ _ _ _ _ hk
        · cases hk
      · cases hk
    cases hk
def KW_copy_150 (j150 : Nat → Nat → Int32 → Mem → Option Mem) (j181 : Nat → Nat → Int32 → Mem → Option Mem) : Jm Mem := fun t als st M =>
  if t = 150 then (match als, st with
  | [.inr (.inr (.inl (al0, w0, cl0))), .inr (.inr (.inl (al1, w1, cl1))), .inl x2], [] => if al0 = 1 ∧ cl0 = 0 ∧ al1 = 1 ∧ cl1 = 0 then j150 w0 w1 x2 M else none
  | _, _ => none) else
  if t = 181 then (match als, st with
  | [.inr (.inr (.inl (al0, w0, cl0))), .inr (.inr (.inl (al1, w1, cl1))), .inl x2], [] => if al0 = 1 ∧ cl0 = 0 ∧ al1 = 1 ∧ cl1 = 0 then j181 w0 w1 x2 M else none
  | _, _ => none) else
  none
set_option maxRecDepth 1000000 in
theorem eW_copy_150 (j150 : Nat → Nat → Int32 → Mem → Option Mem) (j181 : Nat → Nat → Int32 → Mem → Option Mem) (w0 : Nat) (w1 : Nat) (x2 : Int32) (M : Mem) : run (cW_copy) (KW_copy_150 j150 j181) rtV 400 (seek (cW_copy) 150) [aR (1, w0, 0), aR (1, w1, 0), aI x2] [] M = mW_copy_150b j150 j181 w0 w1 x2 M := id rfl
theorem lW_copy_150 {E : EV} {l : Launch} {p : Program} {e : Env} {s : State} {m : MethodId} {args : Array Value} {below : List Frame} {meth : Method} {c : Code} (A : AllOK E l 3 "FreeLances$World" prog_11_method_2_code 3 none outV (cW_copy)) (C : Cx E p s m args meth c "FreeLances$World" prog_11_method_2_code 3 none) : ∀ (n : Nat), ∀ (w0 : Nat) (w1 : Nat) (x2 : Int32) (M : Mem) (res : Mem), mW_copy_150 n w0 w1 x2 M = some res → Wm E p l e 3 s m args below meth c 3 150 [aR (1, w0, 0), aR (1, w1, 0), aI x2] [] M (outV res).1 (outV res).2 := by
  intro n
  induction n with
  | zero => intro _ _ _ M res h; cases h
  | succ n ih =>
    intro w0 w1 x2 M res h
    refine run_at C A rfl hrtV (n := 400) ((eW_copy_150 (mW_copy_150 n) (mW_copy_181 fuel) w0 w1 x2 M).trans h) ?_
    intro t als st M hk
    unfold KW_copy_150 at hk
    split at hk
    · rename_i ht
      subst ht
      split at hk
      · split at hk
        · rename_i hc
          obtain ⟨rfl, rfl, rfl, rfl⟩ := hc
          exact ih _ _ _ _ _ hk
        · cases hk
      · cases hk
    split at hk
    · rename_i ht
      subst ht
      split at hk
      · split at hk
        · rename_i hc
          obtain ⟨rfl, rfl, rfl, rfl⟩ := hc
          exact lW_copy_181 A C _ _ _ _ _ _ hk
        · cases hk
      · cases hk
    cases hk
def KW_copy_119 (j119 : Nat → Nat → Int32 → Mem → Option Mem) (j150 : Nat → Nat → Int32 → Mem → Option Mem) : Jm Mem := fun t als st M =>
  if t = 119 then (match als, st with
  | [.inr (.inr (.inl (al0, w0, cl0))), .inr (.inr (.inl (al1, w1, cl1))), .inl x2], [] => if al0 = 1 ∧ cl0 = 0 ∧ al1 = 1 ∧ cl1 = 0 then j119 w0 w1 x2 M else none
  | _, _ => none) else
  if t = 150 then (match als, st with
  | [.inr (.inr (.inl (al0, w0, cl0))), .inr (.inr (.inl (al1, w1, cl1))), .inl x2], [] => if al0 = 1 ∧ cl0 = 0 ∧ al1 = 1 ∧ cl1 = 0 then j150 w0 w1 x2 M else none
  | _, _ => none) else
  none
set_option maxRecDepth 1000000 in
theorem eW_copy_119 (j119 : Nat → Nat → Int32 → Mem → Option Mem) (j150 : Nat → Nat → Int32 → Mem → Option Mem) (w0 : Nat) (w1 : Nat) (x2 : Int32) (M : Mem) : run (cW_copy) (KW_copy_119 j119 j150) rtV 400 (seek (cW_copy) 119) [aR (1, w0, 0), aR (1, w1, 0), aI x2] [] M = mW_copy_119b j119 j150 w0 w1 x2 M := id rfl
theorem lW_copy_119 {E : EV} {l : Launch} {p : Program} {e : Env} {s : State} {m : MethodId} {args : Array Value} {below : List Frame} {meth : Method} {c : Code} (A : AllOK E l 3 "FreeLances$World" prog_11_method_2_code 3 none outV (cW_copy)) (C : Cx E p s m args meth c "FreeLances$World" prog_11_method_2_code 3 none) : ∀ (n : Nat), ∀ (w0 : Nat) (w1 : Nat) (x2 : Int32) (M : Mem) (res : Mem), mW_copy_119 n w0 w1 x2 M = some res → Wm E p l e 3 s m args below meth c 3 119 [aR (1, w0, 0), aR (1, w1, 0), aI x2] [] M (outV res).1 (outV res).2 := by
  intro n
  induction n with
  | zero => intro _ _ _ M res h; cases h
  | succ n ih =>
    intro w0 w1 x2 M res h
    refine run_at C A rfl hrtV (n := 400) ((eW_copy_119 (mW_copy_119 n) (mW_copy_150 fuel) w0 w1 x2 M).trans h) ?_
    intro t als st M hk
    unfold KW_copy_119 at hk
    split at hk
    · rename_i ht
      subst ht
      split at hk
      · split at hk
        · rename_i hc
          obtain ⟨rfl, rfl, rfl, rfl⟩ := hc
          exact ih _ _ _ _ _ hk
        · cases hk
      · cases hk
    split at hk
    · rename_i ht
      subst ht
      split at hk
      · split at hk
        · rename_i hc
          obtain ⟨rfl, rfl, rfl, rfl⟩ := hc
          exact lW_copy_150 A C _ _ _ _ _ _ hk
        · cases hk
      · cases hk
    cases hk
def KW_copy (j119 : Nat → Nat → Int32 → Mem → Option Mem) : Jm Mem := fun t als st M =>
  if t = 119 then (match als, st with
  | [.inr (.inr (.inl (al0, w0, cl0))), .inr (.inr (.inl (al1, w1, cl1))), .inl x2], [] => if al0 = 1 ∧ cl0 = 0 ∧ al1 = 1 ∧ cl1 = 0 then j119 w0 w1 x2 M else none
  | _, _ => none) else
  none
set_option maxRecDepth 1000000 in
theorem eW_copy (j119 : Nat → Nat → Int32 → Mem → Option Mem) (w0 : Nat) (w1 : Nat) (M : Mem) : run (cW_copy) (KW_copy j119) rtV 400 (seek (cW_copy) 0) [aR (1, w0, 0), aR (1, w1, 0), aU] [] M = mW_copyb j119 w0 w1 M := id rfl
theorem lW_copy {E : EV} {l : Launch} {p : Program} {e : Env} {s : State} {m : MethodId} {args : Array Value} {below : List Frame} {meth : Method} {c : Code} (A : AllOK E l 3 "FreeLances$World" prog_11_method_2_code 3 none outV (cW_copy)) (C : Cx E p s m args meth c "FreeLances$World" prog_11_method_2_code 3 none) : ∀ (w0 : Nat) (w1 : Nat) (M : Mem) (res : Mem), mW_copy w0 w1 M = some res → Wm E p l e 3 s m args below meth c 3 0 [aR (1, w0, 0), aR (1, w1, 0), aU] [] M (outV res).1 (outV res).2 := by
  intro w0 w1 M res h
  refine run_at C A rfl hrtV (n := 400) ((eW_copy (mW_copy_119 fuel) w0 w1 M).trans h) ?_
  intro t als st M hk
  unfold KW_copy at hk
  split at hk
  · rename_i ht
    subst ht
    split at hk
    · split at hk
      · rename_i hc
        obtain ⟨rfl, rfl, rfl, rfl⟩ := hc
        exact lW_copy_119 A C _ _ _ _ _ _ hk
      · cases hk
    · cases hk
  cases hk
def dW_copy {β : Type} : Den β := fun as M k => match as with
  | [.inr (.inr (.inl (al0, w0, cl0))), .inr (.inr (.inl (al1, w1, cl1)))] => if al0 = 1 ∧ cl0 = 0 ∧ al1 = 1 ∧ cl1 = 0 then (mW_copy w0 w1 M).bind fun q => k aU q else none
  | _ => none
theorem wW_copy {E : EV} (hsd : E.2.2.2 = 0) (l : Launch) (w0 : Nat) (w1 : Nat) (M : Mem) (q : Mem) (hq : mW_copy w0 w1 M = some q) : Con E l 3 yW_copy prog_11_method_2_code 3 none [aR (1, w0, 0), aR (1, w1, 0)] M (outV q).1 (outV q).2 := by
  refine con_of iW_copy (Nat.le_of_ble_eq_true rfl) ?_
  intro p e s m args below meth c C
  exact lW_copy (oW_copy hsd l) C w0 w1 M _ hq
theorem kW_copy {E : EV} (hsd : E.2.2.2 = 0) (l : Launch) {β : Type} : DenOK E l 3 yW_copy prog_11_method_2_code 3 none false (dW_copy (β := β)) := by
  intro as M k res h
  unfold dW_copy at h
  split at h
  ·
    split at h
    · rename_i hc
      obtain ⟨rfl, rfl, rfl, rfl⟩ := hc
      obtain ⟨q, hq, hk⟩ := Option.bind_eq_some_iff.mp h
      exact ⟨aU, q, hk, rfl, wW_copy hsd l _ _ M q hq⟩
    · cases h
  · cases h
theorem qW_copy {β : Type} : RecOK 1 (dW_copy (β := β)) := by
  intro as M k res h
  unfold dW_copy at h
  split at h
  ·
    split at h
    · rename_i hc
      obtain ⟨rfl, rfl, rfl, rfl⟩ := hc
      exact ⟨_, _, _, rfl⟩
    · cases h
  · cases h
/-! ===== FreeLances.ahead(III)I ===== -/
abbrev yF_ahead : MethodName := ⟨"FreeLances", "ahead", "(III)I"⟩
theorem iF_ahead : MI yF_ahead prog_1_method_44_code 6 (some .int) 3 := ⟨tw1099, tw97, ⟨by decide, by decide⟩, by decide +kernel, by decide, by decide⟩
def cF_ahead : List (Ent (Int32 × Mem)) := [(false, 0, 1, sLdI 1),
  (false, 1, 1, sC 0),
  (false, 2, 3, sC 200),
  (false, 5, 3, sInv 3 true dF_within),
  (false, 8, 3, sIfEq 36),
  (false, 11, 1, sLdA 0),
  (false, 12, 3, sGet 0 (fun w i M => aR (1, 0, 0))),
  (false, 15, 3, sGet 1 (fun w i M => aI (M 1 w i 0))),
  (false, 18, 1, sLdI 1),
  (false, 19, 1, sBin (fun x y => x + y)),
  (false, 20, 3, sC 3000),
  (false, 23, 3, sCmpGt 36),
  (false, 26, 1, sLdI 2),
  (false, 27, 1, sC 0),
  (false, 28, 2, sC 6),
  (false, 30, 3, sInv 3 true dF_within),
  (false, 33, 3, sIfNe 42),
  (false, 36, 1, sLdA 0),
  (false, 37, 1, sC 1),
  (false, 38, 3, sInv 2 true dF_finding),
  (false, 41, 1, sRetI),
  (false, 42, 1, sLdI 2),
  (false, 43, 1, sC 2),
  (false, 44, 3, sCmpGe 55),
  (false, 47, 1, sLdA 0),
  (false, 48, 1, sLdI 3),
  (false, 49, 3, sInv 2 true dF_isTown),
  (false, 52, 3, sGoto 74),
  (false, 55, 1, sLdI 2),
  (false, 56, 2, sC 6),
  (false, 58, 3, sCmpGe 69),
  (false, 61, 1, sLdA 0),
  (false, 62, 1, sLdI 3),
  (false, 63, 3, sInv 2 true dF_isCompany),
  (false, 66, 3, sGoto 74),
  (false, 69, 1, sLdA 0),
  (false, 70, 1, sLdI 3),
  (false, 71, 3, sInv 2 true dF_isBond),
  (false, 74, 2, sStI 4),
  (false, 76, 2, sLdI 4),
  (false, 78, 3, sIfNe 87),
  (false, 81, 1, sLdA 0),
  (false, 82, 1, sC 1),
  (false, 83, 3, sInv 2 true dF_finding),
  (false, 86, 1, sRetI),
  (false, 87, 1, sLdA 0),
  (false, 88, 3, sGet 0 (fun w i M => aR (1, 2, 0))),
  (false, 91, 1, sLdA 0),
  (false, 92, 3, sGet 0 (fun w i M => aR (1, 0, 0))),
  (false, 95, 3, sInv 2 false dW_copy),
  (false, 98, 1, sC 0),
  (false, 99, 2, sStI 5),
  (true, 101, 2, sLdI 5),
  (false, 103, 1, sLdI 1),
  (false, 104, 3, sCmpGe 120),
  (false, 107, 1, sLdA 0),
  (false, 108, 3, sGet 0 (fun w i M => aR (1, 2, 0))),
  (false, 111, 3, sInv 1 false dW_endDay),
  (false, 114, 3, sInc 5 1),
  (false, 117, 3, sGoto 101),
  (false, 120, 1, sLdI 2),
  (false, 121, 39, sSw 238 [(0, 160), (1, 173), (2, 186), (3, 199), (4, 212), (5, 225)]),
  (false, 160, 1, sLdA 0),
  (false, 161, 3, sGet 0 (fun w i M => aR (1, 2, 0))),
  (false, 164, 3, sGet 1 (fun w i M => aR (2, w, 0))),
  (false, 167, 1, sLdI 3),
  (false, 168, 1, sAald 2 8 3),
  (false, 169, 3, sGet 3 (fun w i M => aI (M 3 w i 0))),
  (false, 172, 1, sRetI),
  (false, 173, 1, sLdA 0),
  (false, 174, 3, sGet 0 (fun w i M => aR (1, 2, 0))),
  (false, 177, 3, sGet 1 (fun w i M => aR (2, w, 0))),
  (false, 180, 1, sLdI 3),
  (false, 181, 1, sAald 2 8 3),
  (false, 182, 3, sGet 3 (fun w i M => aI (M 3 w i 1))),
  (false, 185, 1, sRetI),
  (false, 186, 1, sLdA 0),
  (false, 187, 3, sGet 0 (fun w i M => aR (1, 2, 0))),
  (false, 190, 3, sGet 1 (fun w i M => aR (5, w, 0))),
  (false, 193, 1, sLdI 3),
  (false, 194, 1, sAald 5 5 6),
  (false, 195, 3, sGet 6 (fun w i M => aI (M 6 w i 0))),
  (false, 198, 1, sRetI),
  (false, 199, 1, sLdA 0),
  (false, 200, 3, sGet 0 (fun w i M => aR (1, 2, 0))),
  (false, 203, 3, sGet 1 (fun w i M => aR (5, w, 0))),
  (false, 206, 1, sLdI 3),
  (false, 207, 1, sAald 5 5 6),
  (false, 208, 3, sGet 6 (fun w i M => aI (M 6 w i 1))),
  (false, 211, 1, sRetI),
  (false, 212, 1, sLdA 0),
  (false, 213, 3, sGet 0 (fun w i M => aR (1, 2, 0))),
  (false, 216, 3, sGet 1 (fun w i M => aR (5, w, 0))),
  (false, 219, 1, sLdI 3),
  (false, 220, 1, sAald 5 5 6),
  (false, 221, 3, sGet 6 (fun w i M => aI (M 6 w i 6))),
  (false, 224, 1, sRetI),
  (false, 225, 1, sLdA 0),
  (false, 226, 3, sGet 0 (fun w i M => aR (1, 2, 0))),
  (false, 229, 3, sGet 1 (fun w i M => aR (5, w, 0))),
  (false, 232, 1, sLdI 3),
  (false, 233, 1, sAald 5 5 6),
  (false, 234, 3, sGet 6 (fun w i M => aI (M 6 w i 7))),
  (false, 237, 1, sRetI),
  (false, 238, 1, sLdA 0),
  (false, 239, 3, sGet 0 (fun w i M => aR (1, 2, 0))),
  (false, 242, 3, sGet 1 (fun w i M => aR (14, w, 0))),
  (false, 245, 1, sLdI 3),
  (false, 246, 1, sAald 14 24 15),
  (false, 247, 3, sGet 15 (fun w i M => aI (M 15 w i 8))),
  (false, 250, 1, sRetI)]
theorem oF_ahead {E : EV} (hsd : E.2.2.2 = 0) (l : Launch) : AllOK E l 67 "FreeLances" prog_1_method_44_code 6 (some .int) outI (cF_ahead) := by
  refine ak (ok_iload_n (k := 1) rfl (by decide +kernel)) ?_
  refine ak (ok_iconst (n := 0) (by decide) (by decide +kernel)) ?_
  refine ak (ok_sipush (n := 200) (by decide) (by decide +kernel)) ?_
  refine ak (ok_invS (kF_within hsd l) iF_within tw553 (by decide) tw552 (by decide +kernel)) ?_
  refine ak (ok_if_eq (off := 28) (by decide) (by decide +kernel)) ?_
  refine ak (ok_aload_n (k := 0) rfl (by decide +kernel)) ?_
  refine ak (ok_get (k := 0) ck10 kd0 (by decide) (fun _ _ _ => rfl) (vf_0_0 hsd) tw522 (by decide +kernel)) ?_
  refine ak (ok_get (k := 0) ck9 kd1 (by decide) (fun _ _ _ => rfl) (fun _ _ _ _ _ => trivial) tw387 (by decide +kernel)) ?_
  refine ak (ok_iload_n (k := 1) rfl (by decide +kernel)) ?_
  refine ak (ok_iadd (by decide +kernel)) ?_
  refine ak (ok_sipush (n := 3000) (by decide) (by decide +kernel)) ?_
  refine ak (ok_icmp_gt (off := 13) (by decide) (by decide +kernel)) ?_
  refine ak (ok_iload_n (k := 2) rfl (by decide +kernel)) ?_
  refine ak (ok_iconst (n := 0) (by decide) (by decide +kernel)) ?_
  refine ak (ok_bipush (n := 6) (by decide) (by decide +kernel)) ?_
  refine ak (ok_invS (kF_within hsd l) iF_within tw553 (by decide) tw552 (by decide +kernel)) ?_
  refine ak (ok_if_ne (off := 9) (by decide) (by decide +kernel)) ?_
  refine ak (ok_aload_n (k := 0) rfl (by decide +kernel)) ?_
  refine ak (ok_iconst (n := 1) (by decide) (by decide +kernel)) ?_
  refine ak (ok_invV (r := 0) (kF_finding hsd l) qF_finding ck10 kd0 iF_finding tw557 tw0 (by decide) tw555 (by decide +kernel)) ?_
  refine ak (ok_ireturn rfl (by decide +kernel)) ?_
  refine ak (ok_iload_n (k := 2) rfl (by decide +kernel)) ?_
  refine ak (ok_iconst (n := 2) (by decide) (by decide +kernel)) ?_
  refine ak (ok_icmp_ge (off := 11) (by decide) (by decide +kernel)) ?_
  refine ak (ok_aload_n (k := 0) rfl (by decide +kernel)) ?_
  refine ak (ok_iload_n (k := 3) rfl (by decide +kernel)) ?_
  refine ak (ok_invV (r := 0) (kF_isTown hsd l) qF_isTown ck10 kd0 iF_isTown tw570 tw1 (by decide) tw568 (by decide +kernel)) ?_
  refine ak (ok_goto (off := 22) (by decide) (by decide +kernel)) ?_
  refine ak (ok_iload_n (k := 2) rfl (by decide +kernel)) ?_
  refine ak (ok_bipush (n := 6) (by decide) (by decide +kernel)) ?_
  refine ak (ok_icmp_ge (off := 11) (by decide) (by decide +kernel)) ?_
  refine ak (ok_aload_n (k := 0) rfl (by decide +kernel)) ?_
  refine ak (ok_iload_n (k := 3) rfl (by decide +kernel)) ?_
  refine ak (ok_invV (r := 0) (kF_isCompany hsd l) qF_isCompany ck10 kd0 iF_isCompany tw620 tw2 (by decide) tw618 (by decide +kernel)) ?_
  refine ak (ok_goto (off := 8) (by decide) (by decide +kernel)) ?_
  refine ak (ok_aload_n (k := 0) rfl (by decide +kernel)) ?_
  refine ak (ok_iload_n (k := 3) rfl (by decide +kernel)) ?_
  refine ak (ok_invV (r := 0) (kF_isBond hsd l) qF_isBond ck10 kd0 iF_isBond tw826 tw18 (by decide) tw824 (by decide +kernel)) ?_
  refine ak (ok_istore (by decide) (by decide +kernel)) ?_
  refine ak (ok_iload (by decide +kernel)) ?_
  refine ak (ok_if_ne (off := 9) (by decide) (by decide +kernel)) ?_
  refine ak (ok_aload_n (k := 0) rfl (by decide +kernel)) ?_
  refine ak (ok_iconst (n := 1) (by decide) (by decide +kernel)) ?_
  refine ak (ok_invV (r := 0) (kF_finding hsd l) qF_finding ck10 kd0 iF_finding tw557 tw0 (by decide) tw555 (by decide +kernel)) ?_
  refine ak (ok_ireturn rfl (by decide +kernel)) ?_
  refine ak (ok_aload_n (k := 0) rfl (by decide +kernel)) ?_
  refine ak (ok_get (k := 2) ck10 kd0 (by decide) (fun _ _ _ => rfl) (vf_0_2 hsd) tw524 (by decide +kernel)) ?_
  refine ak (ok_aload_n (k := 0) rfl (by decide +kernel)) ?_
  refine ak (ok_get (k := 0) ck10 kd0 (by decide) (fun _ _ _ => rfl) (vf_0_0 hsd) tw522 (by decide +kernel)) ?_
  refine ak (ok_invV (r := 1) (kW_copy hsd l) qW_copy ck9 kd1 iW_copy tw1101 tw1102 (by decide) tw1100 (by decide +kernel)) ?_
  refine ak (ok_iconst (n := 0) (by decide) (by decide +kernel)) ?_
  refine ak (ok_istore (by decide) (by decide +kernel)) ?_
  refine ak (ok_iload (by decide +kernel)) ?_
  refine ak (ok_iload_n (k := 1) rfl (by decide +kernel)) ?_
  refine ak (ok_icmp_ge (off := 16) (by decide) (by decide +kernel)) ?_
  refine ak (ok_aload_n (k := 0) rfl (by decide +kernel)) ?_
  refine ak (ok_get (k := 2) ck10 kd0 (by decide) (fun _ _ _ => rfl) (vf_0_2 hsd) tw524 (by decide +kernel)) ?_
  refine ak (ok_invV (r := 1) (kW_endDay hsd l) qW_endDay ck9 kd1 iW_endDay tw1065 tw1066 (by decide) tw1064 (by decide +kernel)) ?_
  refine ak (ok_iinc (n := 1) (by decide) (by decide) (by decide +kernel)) ?_
  refine ak (ok_goto (off := (-16)) (by decide) (by decide +kernel)) ?_
  refine ak (ok_iload_n (k := 2) rfl (by decide +kernel)) ?_
  refine ak (ok_table (df := 117) (lo := 0) (hi := 5) (offs := #[39, 52, 65, 78, 91, 104]) (by decide) (by decide) (by decide) (by decide +kernel)) ?_
  refine ak (ok_aload_n (k := 0) rfl (by decide +kernel)) ?_
  refine ak (ok_get (k := 2) ck10 kd0 (by decide) (fun _ _ _ => rfl) (vf_0_2 hsd) tw524 (by decide +kernel)) ?_
  refine ak (ok_get (k := 1) ck9 kd1 (by decide) (fun _ _ _ => rfl) (vf_1_1 hsd) tw389 (by decide +kernel)) ?_
  refine ak (ok_iload_n (k := 3) rfl (by decide +kernel)) ?_
  refine ak (ok_aald (t0 := 2) (C := RX7) kd2 (by decide) rfl (vr_2 hsd) (by decide +kernel)) ?_
  refine ak (ok_get (k := 0) ck7 kd3 (by decide) (fun _ _ _ => rfl) (fun _ _ _ _ _ => trivial) tw175 (by decide +kernel)) ?_
  refine ak (ok_ireturn rfl (by decide +kernel)) ?_
  refine ak (ok_aload_n (k := 0) rfl (by decide +kernel)) ?_
  refine ak (ok_get (k := 2) ck10 kd0 (by decide) (fun _ _ _ => rfl) (vf_0_2 hsd) tw524 (by decide +kernel)) ?_
  refine ak (ok_get (k := 1) ck9 kd1 (by decide) (fun _ _ _ => rfl) (vf_1_1 hsd) tw389 (by decide +kernel)) ?_
  refine ak (ok_iload_n (k := 3) rfl (by decide +kernel)) ?_
  refine ak (ok_aald (t0 := 2) (C := RX7) kd2 (by decide) rfl (vr_2 hsd) (by decide +kernel)) ?_
  refine ak (ok_get (k := 1) ck7 kd3 (by decide) (fun _ _ _ => rfl) (fun _ _ _ _ _ => trivial) tw178 (by decide +kernel)) ?_
  refine ak (ok_ireturn rfl (by decide +kernel)) ?_
  refine ak (ok_aload_n (k := 0) rfl (by decide +kernel)) ?_
  refine ak (ok_get (k := 2) ck10 kd0 (by decide) (fun _ _ _ => rfl) (vf_0_2 hsd) tw524 (by decide +kernel)) ?_
  refine ak (ok_get (k := 5) ck9 kd1 (by decide) (fun _ _ _ => rfl) (vf_1_5 hsd) tw398 (by decide +kernel)) ?_
  refine ak (ok_iload_n (k := 3) rfl (by decide +kernel)) ?_
  refine ak (ok_aald (t0 := 3) (C := RX1) kd5 (by decide) rfl (vr_5 hsd) (by decide +kernel)) ?_
  refine ak (ok_get (k := 0) ck1 kd6 (by decide) (fun _ _ _ => rfl) (fun _ _ _ _ _ => trivial) tw200 (by decide +kernel)) ?_
  refine ak (ok_ireturn rfl (by decide +kernel)) ?_
  refine ak (ok_aload_n (k := 0) rfl (by decide +kernel)) ?_
  refine ak (ok_get (k := 2) ck10 kd0 (by decide) (fun _ _ _ => rfl) (vf_0_2 hsd) tw524 (by decide +kernel)) ?_
  refine ak (ok_get (k := 5) ck9 kd1 (by decide) (fun _ _ _ => rfl) (vf_1_5 hsd) tw398 (by decide +kernel)) ?_
  refine ak (ok_iload_n (k := 3) rfl (by decide +kernel)) ?_
  refine ak (ok_aald (t0 := 3) (C := RX1) kd5 (by decide) rfl (vr_5 hsd) (by decide +kernel)) ?_
  refine ak (ok_get (k := 1) ck1 kd6 (by decide) (fun _ _ _ => rfl) (fun _ _ _ _ _ => trivial) tw203 (by decide +kernel)) ?_
  refine ak (ok_ireturn rfl (by decide +kernel)) ?_
  refine ak (ok_aload_n (k := 0) rfl (by decide +kernel)) ?_
  refine ak (ok_get (k := 2) ck10 kd0 (by decide) (fun _ _ _ => rfl) (vf_0_2 hsd) tw524 (by decide +kernel)) ?_
  refine ak (ok_get (k := 5) ck9 kd1 (by decide) (fun _ _ _ => rfl) (vf_1_5 hsd) tw398 (by decide +kernel)) ?_
  refine ak (ok_iload_n (k := 3) rfl (by decide +kernel)) ?_
  refine ak (ok_aald (t0 := 3) (C := RX1) kd5 (by decide) rfl (vr_5 hsd) (by decide +kernel)) ?_
  refine ak (ok_get (k := 6) ck1 kd6 (by decide) (fun _ _ _ => rfl) (fun _ _ _ _ _ => trivial) tw216 (by decide +kernel)) ?_
  refine ak (ok_ireturn rfl (by decide +kernel)) ?_
  refine ak (ok_aload_n (k := 0) rfl (by decide +kernel)) ?_
  refine ak (ok_get (k := 2) ck10 kd0 (by decide) (fun _ _ _ => rfl) (vf_0_2 hsd) tw524 (by decide +kernel)) ?_
  refine ak (ok_get (k := 5) ck9 kd1 (by decide) (fun _ _ _ => rfl) (vf_1_5 hsd) tw398 (by decide +kernel)) ?_
  refine ak (ok_iload_n (k := 3) rfl (by decide +kernel)) ?_
  refine ak (ok_aald (t0 := 3) (C := RX1) kd5 (by decide) rfl (vr_5 hsd) (by decide +kernel)) ?_
  refine ak (ok_get (k := 7) ck1 kd6 (by decide) (fun _ _ _ => rfl) (fun _ _ _ _ _ => trivial) tw220 (by decide +kernel)) ?_
  refine ak (ok_ireturn rfl (by decide +kernel)) ?_
  refine ak (ok_aload_n (k := 0) rfl (by decide +kernel)) ?_
  refine ak (ok_get (k := 2) ck10 kd0 (by decide) (fun _ _ _ => rfl) (vf_0_2 hsd) tw524 (by decide +kernel)) ?_
  refine ak (ok_get (k := 11) ck9 kd1 (by decide) (fun _ _ _ => rfl) (vf_1_11 hsd) tw411 (by decide +kernel)) ?_
  refine ak (ok_iload_n (k := 3) rfl (by decide +kernel)) ?_
  refine ak (ok_aald (t0 := 6) (C := RX0) kd14 (by decide) rfl (vr_14 hsd) (by decide +kernel)) ?_
  refine ak (ok_get (k := 8) ck0 kd15 (by decide) (fun _ _ _ => rfl) (fun _ _ _ _ _ => trivial) tw350 (by decide +kernel)) ?_
  refine ak (ok_ireturn rfl (by decide +kernel)) ?_
  exact trivial
def KF_ahead_101 (j101 : Int32 → Int32 → Int32 → Int32 → Mem → Option (Int32 × Mem)) : Jm (Int32 × Mem) := fun t als st M =>
  if t = 101 then (match als, st with
  | [.inr (.inr (.inl (al0, bl0, cl0))), .inl x1, .inl x2, .inl x3, _, .inl x5], [] => if al0 = 0 ∧ bl0 = 0 ∧ cl0 = 0 then j101 x1 x2 x3 x5 M else none
  | _, _ => none) else
  none
set_option maxRecDepth 1000000 in
theorem eF_ahead_101 (j101 : Int32 → Int32 → Int32 → Int32 → Mem → Option (Int32 × Mem)) (x1 : Int32) (x2 : Int32) (x3 : Int32) (x5 : Int32) (M : Mem) (u4 : AV) : run (cF_ahead) (KF_ahead_101 j101) rtI 400 (seek (cF_ahead) 101) [aR (0, 0, 0), aI x1, aI x2, aI x3, u4, aI x5] [] M = mF_ahead_101b j101 x1 x2 x3 x5 M := id rfl
theorem lF_ahead_101 {E : EV} {l : Launch} {p : Program} {e : Env} {s : State} {m : MethodId} {args : Array Value} {below : List Frame} {meth : Method} {c : Code} (A : AllOK E l 67 "FreeLances" prog_1_method_44_code 6 (some .int) outI (cF_ahead)) (C : Cx E p s m args meth c "FreeLances" prog_1_method_44_code 6 (some .int)) : ∀ (n : Nat), ∀ (x1 : Int32) (x2 : Int32) (x3 : Int32) (x5 : Int32) (M : Mem) (res : (Int32 × Mem)), mF_ahead_101 n x1 x2 x3 x5 M = some res → ∀ (u4 : AV), Wm E p l e 67 s m args below meth c 6 101 [aR (0, 0, 0), aI x1, aI x2, aI x3, u4, aI x5] [] M (outI res).1 (outI res).2 := by
  intro n
  induction n with
  | zero => intro _ _ _ _ M res h; cases h
  | succ n ih =>
    intro x1 x2 x3 x5 M res h u4
    refine run_at C A rfl hrtI (n := 400) ((eF_ahead_101 (mF_ahead_101 n) x1 x2 x3 x5 M u4).trans h) ?_
    intro t als st M hk
    unfold KF_ahead_101 at hk
    split at hk
    · rename_i ht
      subst ht
      split at hk
      · split at hk
        · rename_i hc
          obtain ⟨rfl, rfl, rfl⟩ := hc
          exact ih _ _ _ _ _ _ hk _
        · cases hk
      · cases hk
    cases hk
def KF_ahead (j101 : Int32 → Int32 → Int32 → Int32 → Mem → Option (Int32 × Mem)) : Jm (Int32 × Mem) := fun t als st M =>
  if t = 101 then (match als, st with
  | [.inr (.inr (.inl (al0, bl0, cl0))), .inl x1, .inl x2, .inl x3, _, .inl x5], [] => if al0 = 0 ∧ bl0 = 0 ∧ cl0 = 0 then j101 x1 x2 x3 x5 M else none
  | _, _ => none) else
  none
set_option maxRecDepth 1000000 in
theorem eF_ahead (j101 : Int32 → Int32 → Int32 → Int32 → Mem → Option (Int32 × Mem)) (x1 : Int32) (x2 : Int32) (x3 : Int32) (M : Mem) : run (cF_ahead) (KF_ahead j101) rtI 400 (seek (cF_ahead) 0) [aR (0, 0, 0), aI x1, aI x2, aI x3, aU, aU] [] M = mF_aheadb j101 x1 x2 x3 M := id rfl
theorem lF_ahead {E : EV} {l : Launch} {p : Program} {e : Env} {s : State} {m : MethodId} {args : Array Value} {below : List Frame} {meth : Method} {c : Code} (A : AllOK E l 67 "FreeLances" prog_1_method_44_code 6 (some .int) outI (cF_ahead)) (C : Cx E p s m args meth c "FreeLances" prog_1_method_44_code 6 (some .int)) : ∀ (x1 : Int32) (x2 : Int32) (x3 : Int32) (M : Mem) (res : (Int32 × Mem)), mF_ahead x1 x2 x3 M = some res → Wm E p l e 67 s m args below meth c 6 0 [aR (0, 0, 0), aI x1, aI x2, aI x3, aU, aU] [] M (outI res).1 (outI res).2 := by
  intro x1 x2 x3 M res h
  refine run_at C A rfl hrtI (n := 400) ((eF_ahead (mF_ahead_101 fuel) x1 x2 x3 M).trans h) ?_
  intro t als st M hk
  unfold KF_ahead at hk
  split at hk
  · rename_i ht
    subst ht
    split at hk
    · split at hk
      · rename_i hc
        obtain ⟨rfl, rfl, rfl⟩ := hc
        exact lF_ahead_101 A C _ _ _ _ _ _ _ hk _
      · cases hk
    · cases hk
  cases hk
def dF_ahead {β : Type} : Den β := fun as M k => match as with
  | [.inr (.inr (.inl (al0, bl0, cl0))), .inl x1, .inl x2, .inl x3] => if al0 = 0 ∧ bl0 = 0 ∧ cl0 = 0 then (mF_ahead x1 x2 x3 M).bind fun q => k (aI q.1) q.2 else none
  | _ => none
theorem wF_ahead {E : EV} (hsd : E.2.2.2 = 0) (l : Launch) (x1 : Int32) (x2 : Int32) (x3 : Int32) (M : Mem) (q : (Int32 × Mem)) (hq : mF_ahead x1 x2 x3 M = some q) : Con E l 67 yF_ahead prog_1_method_44_code 6 (some .int) [aR (0, 0, 0), aI x1, aI x2, aI x3] M (outI q).1 (outI q).2 := by
  refine con_of iF_ahead (Nat.le_of_ble_eq_true rfl) ?_
  intro p e s m args below meth c C
  exact lF_ahead (oF_ahead hsd l) C x1 x2 x3 M _ hq
theorem kF_ahead {E : EV} (hsd : E.2.2.2 = 0) (l : Launch) {β : Type} : DenOK E l 67 yF_ahead prog_1_method_44_code 6 (some .int) true (dF_ahead (β := β)) := by
  intro as M k res h
  unfold dF_ahead at h
  split at h
  ·
    split at h
    · rename_i hc
      obtain ⟨rfl, rfl, rfl⟩ := hc
      obtain ⟨q, hq, hk⟩ := Option.bind_eq_some_iff.mp h
      exact ⟨aI q.1, q.2, hk, rfl, wF_ahead hsd l _ _ _ M q hq⟩
    · cases h
  · cases h
theorem qF_ahead {β : Type} : RecOK 0 (dF_ahead (β := β)) := by
  intro as M k res h
  unfold dF_ahead at h
  split at h
  ·
    split at h
    · rename_i hc
      obtain ⟨rfl, rfl, rfl⟩ := hc
      exact ⟨_, _, _, rfl⟩
    · cases h
  · cases h
abbrev yV_own : MethodName := ⟨"FreeLances$Voices", "own", "(III)I"⟩
theorem iV_own : MI yV_own prog_10_method_3_code 4 (some .int) 3 := ⟨tw1138, tw106, ⟨by decide, by decide⟩, by decide +kernel, by decide, by decide⟩
def dV_own {β : Type} (rV_own : Int32 → Int32 → Int32 → Mem → Option (Int32 × Mem)) : Den β := fun as M k => match as with
  | [.inr (.inr (.inl (al0, bl0, cl0))), .inl x1, .inl x2, .inl x3] => if al0 = 21 ∧ bl0 = 0 ∧ cl0 = 0 then (rV_own x1 x2 x3 M).bind fun q => k (aI q.1) q.2 else none
  | _ => none
theorem kV_own {E : EV} {l : Launch} {D : Nat} {rV_own : Int32 → Int32 → Int32 → Mem → Option (Int32 × Mem)} (H : ∀ (x1 : Int32) (x2 : Int32) (x3 : Int32) (M : Mem) (q : (Int32 × Mem)), rV_own x1 x2 x3 M = some q → Con E l D yV_own prog_10_method_3_code 4 (some .int) [aR (21, 0, 0), aI x1, aI x2, aI x3] M (outI q).1 (outI q).2) {β : Type} : DenOK E l D yV_own prog_10_method_3_code 4 (some .int) true (dV_own (β := β) rV_own) := by
  intro as M k res h
  unfold dV_own at h
  split at h
  ·
    split at h
    · rename_i hc
      obtain ⟨rfl, rfl, rfl⟩ := hc
      obtain ⟨q, hq, hk⟩ := Option.bind_eq_some_iff.mp h
      exact ⟨aI q.1, q.2, hk, rfl, H _ _ _ M q hq⟩
    · cases h
  · cases h
theorem qV_own {β : Type} (rV_own : Int32 → Int32 → Int32 → Mem → Option (Int32 × Mem)) : RecOK 21 (dV_own (β := β) rV_own) := by
  intro as M k res h
  unfold dV_own at h
  split at h
  ·
    split at h
    · rename_i hc
      obtain ⟨rfl, rfl, rfl⟩ := hc
      exact ⟨_, _, _, rfl⟩
    · cases h
  · cases h
abbrev yV_from : MethodName := ⟨"FreeLances$Voices", "from", "(IIII)I"⟩
theorem iV_from : MI yV_from prog_10_method_5_code 7 (some .int) 4 := ⟨tw1142, tw106, ⟨by decide, by decide⟩, by decide +kernel, by decide, by decide⟩
def dV_from {β : Type} (rV_from : Int32 → Int32 → Int32 → Int32 → Mem → Option (Int32 × Mem)) : Den β := fun as M k => match as with
  | [.inr (.inr (.inl (al0, bl0, cl0))), .inl x1, .inl x2, .inl x3, .inl x4] => if al0 = 21 ∧ bl0 = 0 ∧ cl0 = 0 then (rV_from x1 x2 x3 x4 M).bind fun q => k (aI q.1) q.2 else none
  | _ => none
theorem kV_from {E : EV} {l : Launch} {D : Nat} {rV_from : Int32 → Int32 → Int32 → Int32 → Mem → Option (Int32 × Mem)} (H : ∀ (x1 : Int32) (x2 : Int32) (x3 : Int32) (x4 : Int32) (M : Mem) (q : (Int32 × Mem)), rV_from x1 x2 x3 x4 M = some q → Con E l D yV_from prog_10_method_5_code 7 (some .int) [aR (21, 0, 0), aI x1, aI x2, aI x3, aI x4] M (outI q).1 (outI q).2) {β : Type} : DenOK E l D yV_from prog_10_method_5_code 7 (some .int) true (dV_from (β := β) rV_from) := by
  intro as M k res h
  unfold dV_from at h
  split at h
  ·
    split at h
    · rename_i hc
      obtain ⟨rfl, rfl, rfl⟩ := hc
      obtain ⟨q, hq, hk⟩ := Option.bind_eq_some_iff.mp h
      exact ⟨aI q.1, q.2, hk, rfl, H _ _ _ _ M q hq⟩
    · cases h
  · cases h
theorem qV_from {β : Type} (rV_from : Int32 → Int32 → Int32 → Int32 → Mem → Option (Int32 × Mem)) : RecOK 21 (dV_from (β := β) rV_from) := by
  intro as M k res h
  unfold dV_from at h
  split at h
  ·
    split at h
    · rename_i hc
      obtain ⟨rfl, rfl, rfl⟩ := hc
      exact ⟨_, _, _, rfl⟩
    · cases h
  · cases h
abbrev yV_work : MethodName := ⟨"FreeLances$Voices", "work", "(III)I"⟩
theorem iV_work : MI yV_work prog_10_method_6_code 4 (some .int) 3 := ⟨tw1149, tw106, ⟨by decide, by decide⟩, by decide +kernel, by decide, by decide⟩
def dV_work {β : Type} (rV_work : Int32 → Int32 → Int32 → Mem → Option (Int32 × Mem)) : Den β := fun as M k => match as with
  | [.inr (.inr (.inl (al0, bl0, cl0))), .inl x1, .inl x2, .inl x3] => if al0 = 21 ∧ bl0 = 0 ∧ cl0 = 0 then (rV_work x1 x2 x3 M).bind fun q => k (aI q.1) q.2 else none
  | _ => none
theorem kV_work {E : EV} {l : Launch} {D : Nat} {rV_work : Int32 → Int32 → Int32 → Mem → Option (Int32 × Mem)} (H : ∀ (x1 : Int32) (x2 : Int32) (x3 : Int32) (M : Mem) (q : (Int32 × Mem)), rV_work x1 x2 x3 M = some q → Con E l D yV_work prog_10_method_6_code 4 (some .int) [aR (21, 0, 0), aI x1, aI x2, aI x3] M (outI q).1 (outI q).2) {β : Type} : DenOK E l D yV_work prog_10_method_6_code 4 (some .int) true (dV_work (β := β) rV_work) := by
  intro as M k res h
  unfold dV_work at h
  split at h
  ·
    split at h
    · rename_i hc
      obtain ⟨rfl, rfl, rfl⟩ := hc
      obtain ⟨q, hq, hk⟩ := Option.bind_eq_some_iff.mp h
      exact ⟨aI q.1, q.2, hk, rfl, H _ _ _ M q hq⟩
    · cases h
  · cases h
theorem qV_work {β : Type} (rV_work : Int32 → Int32 → Int32 → Mem → Option (Int32 × Mem)) : RecOK 21 (dV_work (β := β) rV_work) := by
  intro as M k res h
  unfold dV_work at h
  split at h
  ·
    split at h
    · rename_i hc
      obtain ⟨rfl, rfl, rfl⟩ := hc
      exact ⟨_, _, _, rfl⟩
    · cases h
  · cases h
abbrev yV_above : MethodName := ⟨"FreeLances$Voices", "above", "(IIII)I"⟩
theorem iV_above : MI yV_above prog_10_method_4_code 5 (some .int) 4 := ⟨tw1153, tw106, ⟨by decide, by decide⟩, by decide +kernel, by decide, by decide⟩
def dV_above {β : Type} (rV_above : Int32 → Int32 → Int32 → Int32 → Mem → Option (Int32 × Mem)) : Den β := fun as M k => match as with
  | [.inr (.inr (.inl (al0, bl0, cl0))), .inl x1, .inl x2, .inl x3, .inl x4] => if al0 = 21 ∧ bl0 = 0 ∧ cl0 = 0 then (rV_above x1 x2 x3 x4 M).bind fun q => k (aI q.1) q.2 else none
  | _ => none
theorem kV_above {E : EV} {l : Launch} {D : Nat} {rV_above : Int32 → Int32 → Int32 → Int32 → Mem → Option (Int32 × Mem)} (H : ∀ (x1 : Int32) (x2 : Int32) (x3 : Int32) (x4 : Int32) (M : Mem) (q : (Int32 × Mem)), rV_above x1 x2 x3 x4 M = some q → Con E l D yV_above prog_10_method_4_code 5 (some .int) [aR (21, 0, 0), aI x1, aI x2, aI x3, aI x4] M (outI q).1 (outI q).2) {β : Type} : DenOK E l D yV_above prog_10_method_4_code 5 (some .int) true (dV_above (β := β) rV_above) := by
  intro as M k res h
  unfold dV_above at h
  split at h
  ·
    split at h
    · rename_i hc
      obtain ⟨rfl, rfl, rfl⟩ := hc
      obtain ⟨q, hq, hk⟩ := Option.bind_eq_some_iff.mp h
      exact ⟨aI q.1, q.2, hk, rfl, H _ _ _ _ M q hq⟩
    · cases h
  · cases h
theorem qV_above {β : Type} (rV_above : Int32 → Int32 → Int32 → Int32 → Mem → Option (Int32 × Mem)) : RecOK 21 (dV_above (β := β) rV_above) := by
  intro as M k res h
  unfold dV_above at h
  split at h
  ·
    split at h
    · rename_i hc
      obtain ⟨rfl, rfl, rfl⟩ := hc
      exact ⟨_, _, _, rfl⟩
    · cases h
  · cases h
/-! ===== FreeLances$Voices.own(III)I ===== -/
def cV_own (rV_from : Int32 → Int32 → Int32 → Int32 → Mem → Option (Int32 × Mem)) : List (Ent (Int32 × Mem)) := [(false, 0, 1, sLdA 0),
  (false, 1, 1, sLdA 0),
  (false, 2, 3, sGet 21 (fun w i M => aI (M 21 w i 2))),
  (false, 5, 1, sLdI 1),
  (false, 6, 1, sLdI 2),
  (false, 7, 1, sLdI 3),
  (false, 8, 3, sInv 5 true (dV_from rV_from)),
  (false, 11, 1, sRetI)]
theorem oV_own {E : EV} (hsd : E.2.2.2 = 0) (l : Launch) (D : Nat) (hD : 0 ≤ D) (rV_from : Int32 → Int32 → Int32 → Int32 → Mem → Option (Int32 × Mem)) (hV_from : ∀ {β : Type}, DenOK E l D yV_from prog_10_method_5_code 7 (some .int) true (dV_from (β := β) rV_from)) : AllOK E l (D + 1) "FreeLances$Voices" prog_10_method_3_code 4 (some .int) outI (cV_own rV_from) := by
  refine ak (ok_aload_n (k := 0) rfl (by decide +kernel)) ?_
  refine ak (ok_aload_n (k := 0) rfl (by decide +kernel)) ?_
  refine ak (ok_get (k := 2) ck8 kd21 (by decide) (fun _ _ _ => rfl) (fun _ _ _ _ _ => trivial) tw495 (by decide +kernel)) ?_
  refine ak (ok_iload_n (k := 1) rfl (by decide +kernel)) ?_
  refine ak (ok_iload_n (k := 2) rfl (by decide +kernel)) ?_
  refine ak (ok_iload_n (k := 3) rfl (by decide +kernel)) ?_
  refine ak (ok_invV (r := 21) hV_from (qV_from rV_from) ck8 kd21 iV_from tw1141 tw34 (by omega) tw1139 (by decide +kernel)) ?_
  refine ak (ok_ireturn rfl (by decide +kernel)) ?_
  exact trivial
set_option maxRecDepth 1000000 in
theorem eV_own (rV_from : Int32 → Int32 → Int32 → Int32 → Mem → Option (Int32 × Mem)) (x1 : Int32) (x2 : Int32) (x3 : Int32) (M : Mem) : run (cV_own rV_from) (fun _ _ _ _ => none) rtI 400 (seek (cV_own rV_from) 0) [aR (21, 0, 0), aI x1, aI x2, aI x3] [] M = mV_own rV_from x1 x2 x3 M := id rfl
theorem lV_own {E : EV} {l : Launch} {p : Program} {e : Env} {s : State} {m : MethodId} {args : Array Value} {below : List Frame} {meth : Method} {c : Code} {D : Nat} (rV_from : Int32 → Int32 → Int32 → Int32 → Mem → Option (Int32 × Mem)) (A : AllOK E l (D + 1) "FreeLances$Voices" prog_10_method_3_code 4 (some .int) outI (cV_own rV_from)) (C : Cx E p s m args meth c "FreeLances$Voices" prog_10_method_3_code 4 (some .int)) : ∀ (x1 : Int32) (x2 : Int32) (x3 : Int32) (M : Mem) (res : (Int32 × Mem)), mV_own rV_from x1 x2 x3 M = some res → Wm E p l e (D + 1) s m args below meth c 4 0 [aR (21, 0, 0), aI x1, aI x2, aI x3] [] M (outI res).1 (outI res).2 := by
  intro x1 x2 x3 M res h
  refine run_at C A rfl hrtI (n := 400) ((eV_own rV_from x1 x2 x3 M).trans h) ?_
  intro t als st M hk; cases hk
theorem wV_own {E : EV} (hsd : E.2.2.2 = 0) (l : Launch) (D : Nat) (hD : 0 ≤ D) (rV_from : Int32 → Int32 → Int32 → Int32 → Mem → Option (Int32 × Mem)) (hV_from : ∀ {β : Type}, DenOK E l D yV_from prog_10_method_5_code 7 (some .int) true (dV_from (β := β) rV_from)) (x1 : Int32) (x2 : Int32) (x3 : Int32) (M : Mem) (q : (Int32 × Mem)) (hq : mV_own rV_from x1 x2 x3 M = some q) : Con E l (D + 1) yV_own prog_10_method_3_code 4 (some .int) [aR (21, 0, 0), aI x1, aI x2, aI x3] M (outI q).1 (outI q).2 := by
  refine con_of iV_own (Nat.le_of_ble_eq_true rfl) ?_
  intro p e s m args below meth c C
  exact lV_own rV_from (oV_own hsd l D hD rV_from hV_from) C x1 x2 x3 M _ hq
/-! ===== FreeLances$Voices.from(IIII)I ===== -/
def cV_from (rV_work : Int32 → Int32 → Int32 → Mem → Option (Int32 × Mem)) : List (Ent (Int32 × Mem)) := [(false, 0, 2, sLdI 4),
  (false, 2, 2, sC 40),
  (false, 4, 3, sCmpLe 9),
  (false, 7, 1, sC 0),
  (false, 8, 1, sRetI),
  (false, 9, 1, sLdI 1),
  (false, 10, 2, sStI 5),
  (false, 12, 1, sC 0),
  (false, 13, 2, sStI 6),
  (true, 15, 2, sLdI 6),
  (false, 17, 1, sC 3),
  (false, 18, 3, sCmpGe 53),
  (false, 21, 2, sLdI 5),
  (false, 23, 3, sIfLe 53),
  (false, 26, 3, sGs (28, 0, 0)),
  (false, 29, 2, sLdI 5),
  (false, 31, 1, sC 4),
  (false, 32, 1, sBin (fun x y => x * y)),
  (false, 33, 1, sLdI 2),
  (false, 34, 1, sBin (fun x y => x + y)),
  (false, 35, 1, sTald 28 28 tabB),
  (false, 36, 3, sIfNe 53),
  (false, 39, 3, sGs (27, 0, 0)),
  (false, 42, 2, sLdI 5),
  (false, 44, 1, sTald 27 7 tabA),
  (false, 45, 2, sStI 5),
  (false, 47, 3, sInc 6 1),
  (false, 50, 3, sGoto 15),
  (false, 53, 2, sLdI 5),
  (false, 55, 3, sIfGe 62),
  (false, 58, 1, sC 0),
  (false, 59, 3, sGoto 72),
  (false, 62, 3, sGs (28, 0, 0)),
  (false, 65, 2, sLdI 5),
  (false, 67, 1, sC 4),
  (false, 68, 1, sBin (fun x y => x * y)),
  (false, 69, 1, sLdI 2),
  (false, 70, 1, sBin (fun x y => x + y)),
  (false, 71, 1, sTald 28 28 tabB),
  (true, 72, 2, sStI 6),
  (false, 74, 1, sLdA 0),
  (false, 75, 3, sGet 21 (fun w i M => aI (M 21 w i 1))),
  (false, 78, 2, sC 40),
  (false, 80, 3, sCmpGe 104),
  (false, 83, 1, sLdA 0),
  (false, 84, 3, sGet 21 (fun w i M => aR (22, 0, 0))),
  (false, 87, 1, sLdA 0),
  (false, 88, 3, sGet 21 (fun w i M => aI (M 21 w i 1))),
  (false, 91, 2, sLdI 6),
  (false, 93, 1, sIast 22 40),
  (false, 94, 1, sLdA 0),
  (false, 95, 1, sDup),
  (false, 96, 3, sGet 21 (fun w i M => aI (M 21 w i 1))),
  (false, 99, 1, sC 1),
  (false, 100, 1, sBin (fun x y => x + y)),
  (false, 101, 3, sPut 21 1),
  (false, 104, 1, sLdA 0),
  (false, 105, 2, sLdI 6),
  (false, 107, 1, sLdI 3),
  (false, 108, 2, sLdI 4),
  (false, 110, 1, sC 1),
  (false, 111, 1, sBin (fun x y => x + y)),
  (false, 112, 3, sInv 4 true (dV_work rV_work)),
  (false, 115, 1, sRetI)]
theorem oV_from {E : EV} (hsd : E.2.2.2 = 0) (l : Launch) (D : Nat) (hD : 0 ≤ D) (rV_work : Int32 → Int32 → Int32 → Mem → Option (Int32 × Mem)) (hV_work : ∀ {β : Type}, DenOK E l D yV_work prog_10_method_6_code 4 (some .int) true (dV_work (β := β) rV_work)) : AllOK E l (D + 1) "FreeLances$Voices" prog_10_method_5_code 7 (some .int) outI (cV_from rV_work) := by
  refine ak (ok_iload (by decide +kernel)) ?_
  refine ak (ok_bipush (n := 40) (by decide) (by decide +kernel)) ?_
  refine ak (ok_icmp_le (off := 5) (by decide) (by decide +kernel)) ?_
  refine ak (ok_iconst (n := 0) (by decide) (by decide +kernel)) ?_
  refine ak (ok_ireturn rfl (by decide +kernel)) ?_
  refine ak (ok_iload_n (k := 1) rfl (by decide +kernel)) ?_
  refine ak (ok_istore (by decide) (by decide +kernel)) ?_
  refine ak (ok_iconst (n := 0) (by decide) (by decide +kernel)) ?_
  refine ak (ok_istore (by decide) (by decide +kernel)) ?_
  refine ak (ok_iload (by decide +kernel)) ?_
  refine ak (ok_iconst (n := 3) (by decide) (by decide +kernel)) ?_
  refine ak (ok_icmp_ge (off := 35) (by decide) (by decide +kernel)) ?_
  refine ak (ok_iload (by decide +kernel)) ?_
  refine ak (ok_if_le (off := 30) (by decide) (by decide +kernel)) ?_
  refine ak (ok_gsBN tw1143 (by decide +kernel)) ?_
  refine ak (ok_iload (by decide +kernel)) ?_
  refine ak (ok_iconst (n := 4) (by decide) (by decide +kernel)) ?_
  refine ak (ok_imul (by decide +kernel)) ?_
  refine ak (ok_iload_n (k := 2) rfl (by decide +kernel)) ?_
  refine ak (ok_iadd (by decide +kernel)) ?_
  refine ak (ok_taldB hsd (by decide +kernel)) ?_
  refine ak (ok_if_ne (off := 17) (by decide) (by decide +kernel)) ?_
  refine ak (ok_gsAN tw1145 (by decide +kernel)) ?_
  refine ak (ok_iload (by decide +kernel)) ?_
  refine ak (ok_taldA hsd (by decide +kernel)) ?_
  refine ak (ok_istore (by decide) (by decide +kernel)) ?_
  refine ak (ok_iinc (n := 1) (by decide) (by decide) (by decide +kernel)) ?_
  refine ak (ok_goto (off := (-35)) (by decide) (by decide +kernel)) ?_
  refine ak (ok_iload (by decide +kernel)) ?_
  refine ak (ok_if_ge (off := 7) (by decide) (by decide +kernel)) ?_
  refine ak (ok_iconst (n := 0) (by decide) (by decide +kernel)) ?_
  refine ak (ok_goto (off := 13) (by decide) (by decide +kernel)) ?_
  refine ak (ok_gsBN tw1143 (by decide +kernel)) ?_
  refine ak (ok_iload (by decide +kernel)) ?_
  refine ak (ok_iconst (n := 4) (by decide) (by decide +kernel)) ?_
  refine ak (ok_imul (by decide +kernel)) ?_
  refine ak (ok_iload_n (k := 2) rfl (by decide +kernel)) ?_
  refine ak (ok_iadd (by decide +kernel)) ?_
  refine ak (ok_taldB hsd (by decide +kernel)) ?_
  refine ak (ok_istore (by decide) (by decide +kernel)) ?_
  refine ak (ok_aload_n (k := 0) rfl (by decide +kernel)) ?_
  refine ak (ok_get (k := 1) ck8 kd21 (by decide) (fun _ _ _ => rfl) (fun _ _ _ _ _ => trivial) tw493 (by decide +kernel)) ?_
  refine ak (ok_bipush (n := 40) (by decide) (by decide +kernel)) ?_
  refine ak (ok_icmp_ge (off := 24) (by decide) (by decide +kernel)) ?_
  refine ak (ok_aload_n (k := 0) rfl (by decide +kernel)) ?_
  refine ak (ok_get (k := 0) ck8 kd21 (by decide) (fun _ _ _ => rfl) (vf_21_0 hsd) tw491 (by decide +kernel)) ?_
  refine ak (ok_aload_n (k := 0) rfl (by decide +kernel)) ?_
  refine ak (ok_get (k := 1) ck8 kd21 (by decide) (fun _ _ _ => rfl) (fun _ _ _ _ _ => trivial) tw493 (by decide +kernel)) ?_
  refine ak (ok_iload (by decide +kernel)) ?_
  refine ak (ok_iast kd22 (by decide) (by decide) (by decide +kernel)) ?_
  refine ak (ok_aload_n (k := 0) rfl (by decide +kernel)) ?_
  refine ak (ok_dup (by decide +kernel)) ?_
  refine ak (ok_get (k := 1) ck8 kd21 (by decide) (fun _ _ _ => rfl) (fun _ _ _ _ _ => trivial) tw493 (by decide +kernel)) ?_
  refine ak (ok_iconst (n := 1) (by decide) (by decide +kernel)) ?_
  refine ak (ok_iadd (by decide +kernel)) ?_
  refine ak (ok_put (k := 1) ck8 kd21 (by decide) (fun _ _ _ => rfl) rfl rfl (by decide) tw493 (by decide +kernel)) ?_
  refine ak (ok_aload_n (k := 0) rfl (by decide +kernel)) ?_
  refine ak (ok_iload (by decide +kernel)) ?_
  refine ak (ok_iload_n (k := 3) rfl (by decide +kernel)) ?_
  refine ak (ok_iload (by decide +kernel)) ?_
  refine ak (ok_iconst (n := 1) (by decide) (by decide +kernel)) ?_
  refine ak (ok_iadd (by decide +kernel)) ?_
  refine ak (ok_invV (r := 21) hV_work (qV_work rV_work) ck8 kd21 iV_work tw1148 tw35 (by omega) tw1146 (by decide +kernel)) ?_
  refine ak (ok_ireturn rfl (by decide +kernel)) ?_
  exact trivial
set_option maxRecDepth 1000000 in
theorem eV_from_72 (rV_work : Int32 → Int32 → Int32 → Mem → Option (Int32 × Mem)) (x3 : Int32) (x4 : Int32) (y0 : Int32) (M : Mem) (u1 u2 u5 u6 : AV) : run (cV_from rV_work) (fun _ _ _ _ => none) rtI 400 (seek (cV_from rV_work) 72) [aR (21, 0, 0), u1, u2, aI x3, aI x4, u5, u6] [aI y0] M = mV_from_72b rV_work x3 x4 y0 M := id rfl
theorem lV_from_72 {E : EV} {l : Launch} {p : Program} {e : Env} {s : State} {m : MethodId} {args : Array Value} {below : List Frame} {meth : Method} {c : Code} {D : Nat} (rV_work : Int32 → Int32 → Int32 → Mem → Option (Int32 × Mem)) (A : AllOK E l (D + 1) "FreeLances$Voices" prog_10_method_5_code 7 (some .int) outI (cV_from rV_work)) (C : Cx E p s m args meth c "FreeLances$Voices" prog_10_method_5_code 7 (some .int)) : ∀ (x3 : Int32) (x4 : Int32) (y0 : Int32) (M : Mem) (res : (Int32 × Mem)), mV_from_72 rV_work x3 x4 y0 M = some res → ∀ (u1 u2 u5 u6 : AV), Wm E p l e (D + 1) s m args below meth c 7 72 [aR (21, 0, 0), u1, u2, aI x3, aI x4, u5, u6] [aI y0] M (outI res).1 (outI res).2 := by
  intro x3 x4 y0 M res h u1 u2 u5 u6
  refine run_at C A rfl hrtI (n := 400) ((eV_from_72 rV_work x3 x4 y0 M u1 u2 u5 u6).trans h) ?_
  intro t als st M hk; cases hk
def KV_from_15 (j15 : Int32 → Int32 → Int32 → Int32 → Int32 → Mem → Option (Int32 × Mem)) (j72 : Int32 → Int32 → Int32 → Mem → Option (Int32 × Mem)) : Jm (Int32 × Mem) := fun t als st M =>
  if t = 15 then (match als, st with
  | [.inr (.inr (.inl (al0, bl0, cl0))), _, .inl x2, .inl x3, .inl x4, .inl x5, .inl x6], [] => if al0 = 21 ∧ bl0 = 0 ∧ cl0 = 0 then j15 x2 x3 x4 x5 x6 M else none
  | _, _ => none) else
  if t = 72 then (match als, st with
  | [.inr (.inr (.inl (al0, bl0, cl0))), _, _, .inl x3, .inl x4, _, _], [.inl y0] => if al0 = 21 ∧ bl0 = 0 ∧ cl0 = 0 then j72 x3 x4 y0 M else none
  | _, _ => none) else
  none
set_option maxRecDepth 1000000 in
theorem eV_from_15 (rV_work : Int32 → Int32 → Int32 → Mem → Option (Int32 × Mem)) (j15 : Int32 → Int32 → Int32 → Int32 → Int32 → Mem → Option (Int32 × Mem)) (j72 : Int32 → Int32 → Int32 → Mem → Option (Int32 × Mem)) (x2 : Int32) (x3 : Int32) (x4 : Int32) (x5 : Int32) (x6 : Int32) (M : Mem) (u1 : AV) : run (cV_from rV_work) (KV_from_15 j15 j72) rtI 400 (seek (cV_from rV_work) 15) [aR (21, 0, 0), u1, aI x2, aI x3, aI x4, aI x5, aI x6] [] M = mV_from_15b rV_work j15 j72 x2 x3 x4 x5 x6 M := id rfl
theorem lV_from_15 {E : EV} {l : Launch} {p : Program} {e : Env} {s : State} {m : MethodId} {args : Array Value} {below : List Frame} {meth : Method} {c : Code} {D : Nat} (rV_work : Int32 → Int32 → Int32 → Mem → Option (Int32 × Mem)) (A : AllOK E l (D + 1) "FreeLances$Voices" prog_10_method_5_code 7 (some .int) outI (cV_from rV_work)) (C : Cx E p s m args meth c "FreeLances$Voices" prog_10_method_5_code 7 (some .int)) : ∀ (n : Nat), ∀ (x2 : Int32) (x3 : Int32) (x4 : Int32) (x5 : Int32) (x6 : Int32) (M : Mem) (res : (Int32 × Mem)), mV_from_15 rV_work n x2 x3 x4 x5 x6 M = some res → ∀ (u1 : AV), Wm E p l e (D + 1) s m args below meth c 7 15 [aR (21, 0, 0), u1, aI x2, aI x3, aI x4, aI x5, aI x6] [] M (outI res).1 (outI res).2 := by
  intro n
  induction n with
  | zero => intro _ _ _ _ _ M res h; cases h
  | succ n ih =>
    intro x2 x3 x4 x5 x6 M res h u1
    refine run_at C A rfl hrtI (n := 400) ((eV_from_15 rV_work (mV_from_15 rV_work n) (mV_from_72 rV_work) x2 x3 x4 x5 x6 M u1).trans h) ?_
    intro t als st M hk
    unfold KV_from_15 at hk
    split at hk
    · rename_i ht
      subst ht
      split at hk
      · split at hk
        · rename_i hc
          obtain ⟨rfl, rfl, rfl⟩ := hc
          exact ih _ _ _ _ _ _ _ hk _
        · cases hk
      · cases hk
    split at hk
    · rename_i ht
      subst ht
      split at hk
      · split at hk
        · rename_i hc
          obtain ⟨rfl, rfl, rfl⟩ := hc
          exact lV_from_72 _ A C _ _ _ _ _ hk _ _ _ _
        · cases hk
      · cases hk
    cases hk
def KV_from (j15 : Int32 → Int32 → Int32 → Int32 → Int32 → Mem → Option (Int32 × Mem)) : Jm (Int32 × Mem) := fun t als st M =>
  if t = 15 then (match als, st with
  | [.inr (.inr (.inl (al0, bl0, cl0))), _, .inl x2, .inl x3, .inl x4, .inl x5, .inl x6], [] => if al0 = 21 ∧ bl0 = 0 ∧ cl0 = 0 then j15 x2 x3 x4 x5 x6 M else none
  | _, _ => none) else
  none
set_option maxRecDepth 1000000 in
theorem eV_from (rV_work : Int32 → Int32 → Int32 → Mem → Option (Int32 × Mem)) (j15 : Int32 → Int32 → Int32 → Int32 → Int32 → Mem → Option (Int32 × Mem)) (x1 : Int32) (x2 : Int32) (x3 : Int32) (x4 : Int32) (M : Mem) : run (cV_from rV_work) (KV_from j15) rtI 400 (seek (cV_from rV_work) 0) [aR (21, 0, 0), aI x1, aI x2, aI x3, aI x4, aU, aU] [] M = mV_fromb rV_work j15 x1 x2 x3 x4 M := id rfl
theorem lV_from {E : EV} {l : Launch} {p : Program} {e : Env} {s : State} {m : MethodId} {args : Array Value} {below : List Frame} {meth : Method} {c : Code} {D : Nat} (rV_work : Int32 → Int32 → Int32 → Mem → Option (Int32 × Mem)) (A : AllOK E l (D + 1) "FreeLances$Voices" prog_10_method_5_code 7 (some .int) outI (cV_from rV_work)) (C : Cx E p s m args meth c "FreeLances$Voices" prog_10_method_5_code 7 (some .int)) : ∀ (x1 : Int32) (x2 : Int32) (x3 : Int32) (x4 : Int32) (M : Mem) (res : (Int32 × Mem)), mV_from rV_work x1 x2 x3 x4 M = some res → Wm E p l e (D + 1) s m args below meth c 7 0 [aR (21, 0, 0), aI x1, aI x2, aI x3, aI x4, aU, aU] [] M (outI res).1 (outI res).2 := by
  intro x1 x2 x3 x4 M res h
  refine run_at C A rfl hrtI (n := 400) ((eV_from rV_work (mV_from_15 rV_work fuel) x1 x2 x3 x4 M).trans h) ?_
  intro t als st M hk
  unfold KV_from at hk
  split at hk
  · rename_i ht
    subst ht
    split at hk
    · split at hk
      · rename_i hc
        obtain ⟨rfl, rfl, rfl⟩ := hc
        exact lV_from_15 _ A C _ _ _ _ _ _ _ _ hk _
      · cases hk
    · cases hk
  cases hk
theorem wV_from {E : EV} (hsd : E.2.2.2 = 0) (l : Launch) (D : Nat) (hD : 0 ≤ D) (rV_work : Int32 → Int32 → Int32 → Mem → Option (Int32 × Mem)) (hV_work : ∀ {β : Type}, DenOK E l D yV_work prog_10_method_6_code 4 (some .int) true (dV_work (β := β) rV_work)) (x1 : Int32) (x2 : Int32) (x3 : Int32) (x4 : Int32) (M : Mem) (q : (Int32 × Mem)) (hq : mV_from rV_work x1 x2 x3 x4 M = some q) : Con E l (D + 1) yV_from prog_10_method_5_code 7 (some .int) [aR (21, 0, 0), aI x1, aI x2, aI x3, aI x4] M (outI q).1 (outI q).2 := by
  refine con_of iV_from (Nat.le_of_ble_eq_true rfl) ?_
  intro p e s m args below meth c C
  exact lV_from rV_work (oV_from hsd l D hD rV_work hV_work) C x1 x2 x3 x4 M _ hq
