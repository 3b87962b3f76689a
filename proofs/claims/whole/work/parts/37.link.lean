/-! ===== FreeLancesModel.muster(II)I ===== -/
abbrev yK_muster : MethodName := ⟨"FreeLancesModel", "muster", "(II)I"⟩
theorem iK_muster : MI yK_muster prog_13_method_80_code 9 (some .int) 2 := ⟨tw1623, tw108, ⟨by decide, by decide⟩, by decide +kernel, by decide, by decide⟩
def cK_muster : List (Ent (Int32 × Mem)) := [(false, 0, 1, sLdA 0),
  (false, 1, 1, sLdI 1),
  (false, 2, 3, sInv 2 true dK_isCompany),
  (false, 5, 3, sIfEq 15),
  (false, 8, 1, sLdI 2),
  (false, 9, 3, sInv 1 true dK_isSheet),
  (false, 12, 3, sIfNe 21),
  (false, 15, 1, sLdA 0),
  (false, 16, 1, sC 1),
  (false, 17, 3, sInv 2 true dK_finds),
  (false, 20, 1, sRetI),
  (false, 21, 1, sLdA 0),
  (false, 22, 3, sGet 40 (fun w i M => aR (64, 0, 0))),
  (false, 25, 1, sLdI 2),
  (false, 26, 1, sIald 64 4),
  (false, 27, 3, sIfNe 36),
  (false, 30, 1, sLdA 0),
  (false, 31, 1, sC 2),
  (false, 32, 3, sInv 2 true dK_finds),
  (false, 35, 1, sRetI),
  (false, 36, 1, sLdA 0),
  (false, 37, 1, sLdI 1),
  (false, 38, 1, sC 2),
  (false, 39, 3, sInv 3 true dK_own),
  (false, 42, 3, sIfGe 51),
  (false, 45, 1, sLdA 0),
  (false, 46, 1, sC 3),
  (false, 47, 3, sInv 2 true dK_finds),
  (false, 50, 1, sRetI),
  (false, 51, 1, sLdA 0),
  (false, 52, 3, sGet 40 (fun w i M => aR (65, 0, 0))),
  (false, 55, 1, sLdI 2),
  (false, 56, 1, sIald 65 4),
  (false, 57, 2, sC 12),
  (false, 59, 3, sCmpGt 66),
  (false, 62, 1, sC 1),
  (false, 63, 3, sGoto 67),
  (false, 66, 1, sC 0),
  (false, 67, 1, sStI 3),
  (false, 68, 1, sC 0),
  (false, 69, 2, sStI 4),
  (true, 71, 2, sLdI 4),
  (false, 73, 1, sLdA 0),
  (false, 74, 3, sGet 40 (fun w i M => aR (65, 0, 0))),
  (false, 77, 1, sLdI 2),
  (false, 78, 1, sIald 65 4),
  (false, 79, 3, sCmpGe 119),
  (false, 82, 1, sLdI 3),
  (false, 83, 3, sIfEq 111),
  (false, 86, 1, sLdA 0),
  (false, 87, 3, sGet 40 (fun w i M => aR (66, 0, 0))),
  (false, 90, 2, sC 24),
  (false, 92, 1, sLdI 2),
  (false, 93, 1, sBin (fun x y => x * y)),
  (false, 94, 2, sLdI 4),
  (false, 96, 1, sBin (fun x y => x + y)),
  (false, 97, 1, sIald 66 96),
  (false, 98, 1, sC (-1)),
  (false, 99, 2, sC 99),
  (false, 101, 3, sInv 3 true dK_in),
  (false, 104, 3, sIfEq 111),
  (false, 107, 1, sC 1),
  (false, 108, 3, sGoto 112),
  (false, 111, 1, sC 0),
  (false, 112, 1, sStI 3),
  (false, 113, 3, sInc 4 1),
  (false, 116, 3, sGoto 71),
  (false, 119, 1, sLdI 3),
  (false, 120, 3, sIfNe 129),
  (false, 123, 1, sLdA 0),
  (false, 124, 1, sC 5),
  (false, 125, 3, sInv 2 true dK_finds),
  (false, 128, 1, sRetI),
  (false, 129, 1, sC 0),
  (false, 130, 2, sStI 4),
  (false, 132, 1, sC 0),
  (false, 133, 2, sStI 5),
  (true, 135, 2, sLdI 5),
  (false, 137, 1, sLdA 0),
  (false, 138, 3, sGet 40 (fun w i M => aR (65, 0, 0))),
  (false, 141, 1, sLdI 2),
  (false, 142, 1, sIald 65 4),
  (false, 143, 3, sCmpGe 222),
  (false, 146, 2, sLdI 5),
  (false, 148, 1, sLdA 0),
  (false, 149, 1, sLdI 1),
  (false, 150, 2, sC 9),
  (false, 152, 3, sInv 3 true dK_own),
  (false, 155, 3, sCmpGe 171),
  (false, 158, 1, sLdA 0),
  (false, 159, 1, sLdI 1),
  (false, 160, 2, sC 10),
  (false, 162, 2, sLdI 5),
  (false, 164, 1, sBin (fun x y => x + y)),
  (false, 165, 3, sInv 3 true dK_own),
  (false, 168, 3, sGoto 172),
  (false, 171, 1, sC (-1)),
  (true, 172, 2, sStI 6),
  (false, 174, 1, sLdA 0),
  (false, 175, 1, sLdI 1),
  (false, 176, 2, sC 10),
  (false, 178, 2, sLdI 5),
  (false, 180, 1, sBin (fun x y => x + y)),
  (false, 181, 1, sLdA 0),
  (false, 182, 3, sGet 40 (fun w i M => aR (66, 0, 0))),
  (false, 185, 2, sC 24),
  (false, 187, 1, sLdI 2),
  (false, 188, 1, sBin (fun x y => x * y)),
  (false, 189, 2, sLdI 5),
  (false, 191, 1, sBin (fun x y => x + y)),
  (false, 192, 1, sIald 66 96),
  (false, 193, 3, sIfGe 201),
  (false, 196, 2, sLdI 6),
  (false, 198, 3, sGoto 213),
  (false, 201, 1, sLdA 0),
  (false, 202, 3, sGet 40 (fun w i M => aR (66, 0, 0))),
  (false, 205, 2, sC 24),
  (false, 207, 1, sLdI 2),
  (false, 208, 1, sBin (fun x y => x * y)),
  (false, 209, 2, sLdI 5),
  (false, 211, 1, sBin (fun x y => x + y)),
  (false, 212, 1, sIald 66 96),
  (false, 213, 3, sInv 4 false dK_sets),
  (false, 216, 3, sInc 5 1),
  (false, 219, 3, sGoto 135),
  (false, 222, 1, sC 0),
  (false, 223, 2, sStI 5),
  (true, 225, 2, sLdI 5),
  (false, 227, 1, sLdA 0),
  (false, 228, 3, sGet 40 (fun w i M => aR (65, 0, 0))),
  (false, 231, 1, sLdI 2),
  (false, 232, 1, sIald 65 4),
  (false, 233, 3, sCmpGe 351),
  (false, 236, 1, sLdA 0),
  (false, 237, 1, sLdI 1),
  (false, 238, 2, sC 10),
  (false, 240, 2, sLdI 5),
  (false, 242, 1, sBin (fun x y => x + y)),
  (false, 243, 3, sInv 3 true dK_own),
  (false, 246, 2, sStI 6),
  (false, 248, 2, sLdI 6),
  (false, 250, 3, sIfGe 257),
  (false, 253, 1, sC 1),
  (false, 254, 3, sGoto 258),
  (false, 257, 1, sC 0),
  (false, 258, 2, sStI 7),
  (false, 260, 1, sC 0),
  (false, 261, 2, sStI 8),
  (true, 263, 2, sLdI 8),
  (false, 265, 2, sLdI 5),
  (false, 267, 3, sCmpGe 303),
  (false, 270, 2, sLdI 7),
  (false, 272, 3, sIfNe 290),
  (false, 275, 1, sLdA 0),
  (false, 276, 1, sLdI 1),
  (false, 277, 2, sC 10),
  (false, 279, 2, sLdI 8),
  (false, 281, 1, sBin (fun x y => x + y)),
  (false, 282, 3, sInv 3 true dK_own),
  (false, 285, 2, sLdI 6),
  (false, 287, 3, sCmpNe 294),
  (false, 290, 1, sC 1),
  (false, 291, 3, sGoto 295),
  (false, 294, 1, sC 0),
  (false, 295, 2, sStI 7),
  (false, 297, 3, sInc 8 1),
  (false, 300, 3, sGoto 263),
  (false, 303, 2, sLdI 7),
  (false, 305, 3, sIfEq 312),
  (false, 308, 1, sC (-1)),
  (false, 309, 3, sGoto 319),
  (false, 312, 1, sLdA 0),
  (false, 313, 1, sLdI 1),
  (false, 314, 2, sLdI 6),
  (false, 316, 3, sInv 3 true dK_marked),
  (false, 319, 2, sStI 8),
  (false, 321, 2, sLdI 4),
  (false, 323, 2, sLdI 8),
  (false, 325, 3, sIfLt 341),
  (false, 328, 1, sLdA 0),
  (false, 329, 2, sLdI 8),
  (false, 331, 3, sInv 2 true dK_counts),
  (false, 334, 3, sIfEq 341),
  (false, 337, 1, sC 1),
  (false, 338, 3, sGoto 342),
  (false, 341, 1, sC 0),
  (false, 342, 1, sBin (fun x y => x + y)),
  (false, 343, 2, sStI 4),
  (false, 345, 3, sInc 5 1),
  (false, 348, 3, sGoto 225),
  (false, 351, 1, sLdA 0),
  (false, 352, 1, sLdI 1),
  (false, 353, 2, sC 9),
  (false, 355, 1, sLdA 0),
  (false, 356, 3, sGet 40 (fun w i M => aR (65, 0, 0))),
  (false, 359, 1, sLdI 2),
  (false, 360, 1, sIald 65 4),
  (false, 361, 3, sInv 4 false dK_sets),
  (false, 364, 1, sLdA 0),
  (false, 365, 1, sLdI 1),
  (false, 366, 2, sC 6),
  (false, 368, 2, sLdI 4),
  (false, 370, 3, sInv 4 false dK_sets),
  (false, 373, 1, sLdA 0),
  (false, 374, 1, sLdI 1),
  (false, 375, 2, sC 7),
  (false, 377, 1, sLdA 0),
  (false, 378, 3, sGet 40 (fun w i M => aR (41, 0, 0))),
  (false, 381, 2, sC 6),
  (false, 383, 1, sIald 41 1502),
  (false, 384, 3, sInv 4 false dK_sets),
  (false, 387, 1, sLdA 0),
  (false, 388, 1, sLdI 1),
  (false, 389, 2, sC 8),
  (false, 391, 1, sLdA 0),
  (false, 392, 1, sLdI 1),
  (false, 393, 1, sC 2),
  (false, 394, 3, sInv 3 true dK_own),
  (false, 397, 3, sInv 4 false dK_sets),
  (false, 400, 2, sLdI 4),
  (false, 402, 1, sRetI)]
theorem oK_muster {E : EV} (hsd : E.2.2.2 = 1) (l : Launch) : AllOK E l 4 "FreeLancesModel" prog_13_method_80_code 9 (some .int) outI (cK_muster) := by
  refine ak (ok_aload_n (k := 0) rfl (by decide +kernel)) ?_
  refine ak (ok_iload_n (k := 1) rfl (by decide +kernel)) ?_
  refine ak (ok_invV (r := 40) (kK_isCompany hsd l) qK_isCompany ck11 kd40 iK_isCompany tw1392 tw44 (by decide) tw1390 (by decide +kernel)) ?_
  refine ak (ok_if_eq (off := 10) (by decide) (by decide +kernel)) ?_
  refine ak (ok_iload_n (k := 2) rfl (by decide +kernel)) ?_
  refine ak (ok_invS (kK_isSheet hsd l) iK_isSheet tw1625 (by decide) tw1624 (by decide +kernel)) ?_
  refine ak (ok_if_ne (off := 9) (by decide) (by decide +kernel)) ?_
  refine ak (ok_aload_n (k := 0) rfl (by decide +kernel)) ?_
  refine ak (ok_iconst (n := 1) (by decide) (by decide +kernel)) ?_
  refine ak (ok_invV (r := 40) (kK_finds hsd l) qK_finds ck11 kd40 iK_finds tw1334 tw37 (by decide) tw1332 (by decide +kernel)) ?_
  refine ak (ok_ireturn rfl (by decide +kernel)) ?_
  refine ak (ok_aload_n (k := 0) rfl (by decide +kernel)) ?_
  refine ak (ok_get (k := 23) ck11 kd40 (by decide) (fun _ _ _ => rfl) (vf_40_23 hsd) tw1265 (by decide +kernel)) ?_
  refine ak (ok_iload_n (k := 2) rfl (by decide +kernel)) ?_
  refine ak (ok_iald kd64 (by decide) (by decide +kernel)) ?_
  refine ak (ok_if_ne (off := 9) (by decide) (by decide +kernel)) ?_
  refine ak (ok_aload_n (k := 0) rfl (by decide +kernel)) ?_
  refine ak (ok_iconst (n := 2) (by decide) (by decide +kernel)) ?_
  refine ak (ok_invV (r := 40) (kK_finds hsd l) qK_finds ck11 kd40 iK_finds tw1334 tw37 (by decide) tw1332 (by decide +kernel)) ?_
  refine ak (ok_ireturn rfl (by decide +kernel)) ?_
  refine ak (ok_aload_n (k := 0) rfl (by decide +kernel)) ?_
  refine ak (ok_iload_n (k := 1) rfl (by decide +kernel)) ?_
  refine ak (ok_iconst (n := 2) (by decide) (by decide +kernel)) ?_
  refine ak (ok_invV (r := 40) (kK_own hsd l) qK_own ck11 kd40 iK_own tw1363 tw41 (by decide) tw1361 (by decide +kernel)) ?_
  refine ak (ok_if_ge (off := 9) (by decide) (by decide +kernel)) ?_
  refine ak (ok_aload_n (k := 0) rfl (by decide +kernel)) ?_
  refine ak (ok_iconst (n := 3) (by decide) (by decide +kernel)) ?_
  refine ak (ok_invV (r := 40) (kK_finds hsd l) qK_finds ck11 kd40 iK_finds tw1334 tw37 (by decide) tw1332 (by decide +kernel)) ?_
  refine ak (ok_ireturn rfl (by decide +kernel)) ?_
  refine ak (ok_aload_n (k := 0) rfl (by decide +kernel)) ?_
  refine ak (ok_get (k := 24) ck11 kd40 (by decide) (fun _ _ _ => rfl) (vf_40_24 hsd) tw1266 (by decide +kernel)) ?_
  refine ak (ok_iload_n (k := 2) rfl (by decide +kernel)) ?_
  refine ak (ok_iald kd65 (by decide) (by decide +kernel)) ?_
  refine ak (ok_bipush (n := 12) (by decide) (by decide +kernel)) ?_
  refine ak (ok_icmp_gt (off := 7) (by decide) (by decide +kernel)) ?_
  refine ak (ok_iconst (n := 1) (by decide) (by decide +kernel)) ?_
  refine ak (ok_goto (off := 4) (by decide) (by decide +kernel)) ?_
  refine ak (ok_iconst (n := 0) (by decide) (by decide +kernel)) ?_
  refine ak (ok_istore_n (k := 3) rfl (by decide) (by decide +kernel)) ?_
  refine ak (ok_iconst (n := 0) (by decide) (by decide +kernel)) ?_
  refine ak (ok_istore (by decide) (by decide +kernel)) ?_
  refine ak (ok_iload (by decide +kernel)) ?_
  refine ak (ok_aload_n (k := 0) rfl (by decide +kernel)) ?_
  refine ak (ok_get (k := 24) ck11 kd40 (by decide) (fun _ _ _ => rfl) (vf_40_24 hsd) tw1266 (by decide +kernel)) ?_
  refine ak (ok_iload_n (k := 2) rfl (by decide +kernel)) ?_
  refine ak (ok_iald kd65 (by decide) (by decide +kernel)) ?_
  refine ak (ok_icmp_ge (off := 40) (by decide) (by decide +kernel)) ?_
  refine ak (ok_iload_n (k := 3) rfl (by decide +kernel)) ?_
  refine ak (ok_if_eq (off := 28) (by decide) (by decide +kernel)) ?_
  refine ak (ok_aload_n (k := 0) rfl (by decide +kernel)) ?_
  refine ak (ok_get (k := 25) ck11 kd40 (by decide) (fun _ _ _ => rfl) (vf_40_25 hsd) tw1267 (by decide +kernel)) ?_
  refine ak (ok_bipush (n := 24) (by decide) (by decide +kernel)) ?_
  refine ak (ok_iload_n (k := 2) rfl (by decide +kernel)) ?_
  refine ak (ok_imul (by decide +kernel)) ?_
  refine ak (ok_iload (by decide +kernel)) ?_
  refine ak (ok_iadd (by decide +kernel)) ?_
  refine ak (ok_iald kd66 (by decide) (by decide +kernel)) ?_
  refine ak (ok_iconst (n := (-1)) (by decide) (by decide +kernel)) ?_
  refine ak (ok_bipush (n := 99) (by decide) (by decide +kernel)) ?_
  refine ak (ok_invS (kK_in hsd l) iK_in tw1330 (by decide) tw1329 (by decide +kernel)) ?_
  refine ak (ok_if_eq (off := 7) (by decide) (by decide +kernel)) ?_
  refine ak (ok_iconst (n := 1) (by decide) (by decide +kernel)) ?_
  refine ak (ok_goto (off := 4) (by decide) (by decide +kernel)) ?_
  refine ak (ok_iconst (n := 0) (by decide) (by decide +kernel)) ?_
  refine ak (ok_istore_n (k := 3) rfl (by decide) (by decide +kernel)) ?_
  refine ak (ok_iinc (n := 1) (by decide) (by decide) (by decide +kernel)) ?_
  refine ak (ok_goto (off := (-45)) (by decide) (by decide +kernel)) ?_
  refine ak (ok_iload_n (k := 3) rfl (by decide +kernel)) ?_
  refine ak (ok_if_ne (off := 9) (by decide) (by decide +kernel)) ?_
  refine ak (ok_aload_n (k := 0) rfl (by decide +kernel)) ?_
  refine ak (ok_iconst (n := 5) (by decide) (by decide +kernel)) ?_
  refine ak (ok_invV (r := 40) (kK_finds hsd l) qK_finds ck11 kd40 iK_finds tw1334 tw37 (by decide) tw1332 (by decide +kernel)) ?_
  refine ak (ok_ireturn rfl (by decide +kernel)) ?_
  refine ak (ok_iconst (n := 0) (by decide) (by decide +kernel)) ?_
  refine ak (ok_istore (by decide) (by decide +kernel)) ?_
  refine ak (ok_iconst (n := 0) (by decide) (by decide +kernel)) ?_
  refine ak (ok_istore (by decide) (by decide +kernel)) ?_
  refine ak (ok_iload (by decide +kernel)) ?_
  refine ak (ok_aload_n (k := 0) rfl (by decide +kernel)) ?_
  refine ak (ok_get (k := 24) ck11 kd40 (by decide) (fun _ _ _ => rfl) (vf_40_24 hsd) tw1266 (by decide +kernel)) ?_
  refine ak (ok_iload_n (k := 2) rfl (by decide +kernel)) ?_
  refine ak (ok_iald kd65 (by decide) (by decide +kernel)) ?_
  refine ak (ok_icmp_ge (off := 79) (by decide) (by decide +kernel)) ?_
  refine ak (ok_iload (by decide +kernel)) ?_
  refine ak (ok_aload_n (k := 0) rfl (by decide +kernel)) ?_
  refine ak (ok_iload_n (k := 1) rfl (by decide +kernel)) ?_
  refine ak (ok_bipush (n := 9) (by decide) (by decide +kernel)) ?_
  refine ak (ok_invV (r := 40) (kK_own hsd l) qK_own ck11 kd40 iK_own tw1363 tw41 (by decide) tw1361 (by decide +kernel)) ?_
  refine ak (ok_icmp_ge (off := 16) (by decide) (by decide +kernel)) ?_
  refine ak (ok_aload_n (k := 0) rfl (by decide +kernel)) ?_
  refine ak (ok_iload_n (k := 1) rfl (by decide +kernel)) ?_
  refine ak (ok_bipush (n := 10) (by decide) (by decide +kernel)) ?_
  refine ak (ok_iload (by decide +kernel)) ?_
  refine ak (ok_iadd (by decide +kernel)) ?_
  refine ak (ok_invV (r := 40) (kK_own hsd l) qK_own ck11 kd40 iK_own tw1363 tw41 (by decide) tw1361 (by decide +kernel)) ?_
  refine ak (ok_goto (off := 4) (by decide) (by decide +kernel)) ?_
  refine ak (ok_iconst (n := (-1)) (by decide) (by decide +kernel)) ?_
  refine ak (ok_istore (by decide) (by decide +kernel)) ?_
  refine ak (ok_aload_n (k := 0) rfl (by decide +kernel)) ?_
  refine ak (ok_iload_n (k := 1) rfl (by decide +kernel)) ?_
  refine ak (ok_bipush (n := 10) (by decide) (by decide +kernel)) ?_
  refine ak (ok_iload (by decide +kernel)) ?_
  refine ak (ok_iadd (by decide +kernel)) ?_
  refine ak (ok_aload_n (k := 0) rfl (by decide +kernel)) ?_
  refine ak (ok_get (k := 25) ck11 kd40 (by decide) (fun _ _ _ => rfl) (vf_40_25 hsd) tw1267 (by decide +kernel)) ?_
  refine ak (ok_bipush (n := 24) (by decide) (by decide +kernel)) ?_
  refine ak (ok_iload_n (k := 2) rfl (by decide +kernel)) ?_
  refine ak (ok_imul (by decide +kernel)) ?_
  refine ak (ok_iload (by decide +kernel)) ?_
  refine ak (ok_iadd (by decide +kernel)) ?_
  refine ak (ok_iald kd66 (by decide) (by decide +kernel)) ?_
  refine ak (ok_if_ge (off := 8) (by decide) (by decide +kernel)) ?_
  refine ak (ok_iload (by decide +kernel)) ?_
  refine ak (ok_goto (off := 15) (by decide) (by decide +kernel)) ?_
  refine ak (ok_aload_n (k := 0) rfl (by decide +kernel)) ?_
  refine ak (ok_get (k := 25) ck11 kd40 (by decide) (fun _ _ _ => rfl) (vf_40_25 hsd) tw1267 (by decide +kernel)) ?_
  refine ak (ok_bipush (n := 24) (by decide) (by decide +kernel)) ?_
  refine ak (ok_iload_n (k := 2) rfl (by decide +kernel)) ?_
  refine ak (ok_imul (by decide +kernel)) ?_
  refine ak (ok_iload (by decide +kernel)) ?_
  refine ak (ok_iadd (by decide +kernel)) ?_
  refine ak (ok_iald kd66 (by decide) (by decide +kernel)) ?_
  refine ak (ok_invV (r := 40) (kK_sets hsd l) qK_sets ck11 kd40 iK_sets tw1384 tw43 (by decide) tw1382 (by decide +kernel)) ?_
  refine ak (ok_iinc (n := 1) (by decide) (by decide) (by decide +kernel)) ?_
  refine ak (ok_goto (off := (-84)) (by decide) (by decide +kernel)) ?_
  refine ak (ok_iconst (n := 0) (by decide) (by decide +kernel)) ?_
  refine ak (ok_istore (by decide) (by decide +kernel)) ?_
  refine ak (ok_iload (by decide +kernel)) ?_
  refine ak (ok_aload_n (k := 0) rfl (by decide +kernel)) ?_
  refine ak (ok_get (k := 24) ck11 kd40 (by decide) (fun _ _ _ => rfl) (vf_40_24 hsd) tw1266 (by decide +kernel)) ?_
  refine ak (ok_iload_n (k := 2) rfl (by decide +kernel)) ?_
  refine ak (ok_iald kd65 (by decide) (by decide +kernel)) ?_
  refine ak (ok_icmp_ge (off := 118) (by decide) (by decide +kernel)) ?_
  refine ak (ok_aload_n (k := 0) rfl (by decide +kernel)) ?_
  refine ak (ok_iload_n (k := 1) rfl (by decide +kernel)) ?_
  refine ak (ok_bipush (n := 10) (by decide) (by decide +kernel)) ?_
  refine ak (ok_iload (by decide +kernel)) ?_
  refine ak (ok_iadd (by decide +kernel)) ?_
  refine ak (ok_invV (r := 40) (kK_own hsd l) qK_own ck11 kd40 iK_own tw1363 tw41 (by decide) tw1361 (by decide +kernel)) ?_
  refine ak (ok_istore (by decide) (by decide +kernel)) ?_
  refine ak (ok_iload (by decide +kernel)) ?_
  refine ak (ok_if_ge (off := 7) (by decide) (by decide +kernel)) ?_
  refine ak (ok_iconst (n := 1) (by decide) (by decide +kernel)) ?_
  refine ak (ok_goto (off := 4) (by decide) (by decide +kernel)) ?_
  refine ak (ok_iconst (n := 0) (by decide) (by decide +kernel)) ?_
  refine ak (ok_istore (by decide) (by decide +kernel)) ?_
  refine ak (ok_iconst (n := 0) (by decide) (by decide +kernel)) ?_
  refine ak (ok_istore (by decide) (by decide +kernel)) ?_
  refine ak (ok_iload (by decide +kernel)) ?_
  refine ak (ok_iload (by decide +kernel)) ?_
  refine ak (ok_icmp_ge (off := 36) (by decide) (by decide +kernel)) ?_
  refine ak (ok_iload (by decide +kernel)) ?_
  refine ak (ok_if_ne (off := 18) (by decide) (by decide +kernel)) ?_
  refine ak (ok_aload_n (k := 0) rfl (by decide +kernel)) ?_
  refine ak (ok_iload_n (k := 1) rfl (by decide +kernel)) ?_
  refine ak (ok_bipush (n := 10) (by decide) (by decide +kernel)) ?_
  refine ak (ok_iload (by decide +kernel)) ?_
  refine ak (ok_iadd (by decide +kernel)) ?_
  refine ak (ok_invV (r := 40) (kK_own hsd l) qK_own ck11 kd40 iK_own tw1363 tw41 (by decide) tw1361 (by decide +kernel)) ?_
  refine ak (ok_iload (by decide +kernel)) ?_
  refine ak (ok_icmp_ne (off := 7) (by decide) (by decide +kernel)) ?_
  refine ak (ok_iconst (n := 1) (by decide) (by decide +kernel)) ?_
  refine ak (ok_goto (off := 4) (by decide) (by decide +kernel)) ?_
  refine ak (ok_iconst (n := 0) (by decide) (by decide +kernel)) ?_
  refine ak (ok_istore (by decide) (by decide +kernel)) ?_
  refine ak (ok_iinc (n := 1) (by decide) (by decide) (by decide +kernel)) ?_
  refine ak (ok_goto (off := (-37)) (by decide) (by decide +kernel)) ?_
  refine ak (ok_iload (by decide +kernel)) ?_
  refine ak (ok_if_eq (off := 7) (by decide) (by decide +kernel)) ?_
  refine ak (ok_iconst (n := (-1)) (by decide) (by decide +kernel)) ?_
  refine ak (ok_goto (off := 10) (by decide) (by decide +kernel)) ?_
  refine ak (ok_aload_n (k := 0) rfl (by decide +kernel)) ?_
  refine ak (ok_iload_n (k := 1) rfl (by decide +kernel)) ?_
  refine ak (ok_iload (by decide +kernel)) ?_
  refine ak (ok_invV (r := 40) (kK_marked hsd l) qK_marked ck11 kd40 iK_marked tw1629 tw73 (by decide) tw1627 (by decide +kernel)) ?_
  refine ak (ok_istore (by decide) (by decide +kernel)) ?_
  refine ak (ok_iload (by decide +kernel)) ?_
  refine ak (ok_iload (by decide +kernel)) ?_
  refine ak (ok_if_lt (off := 16) (by decide) (by decide +kernel)) ?_
  refine ak (ok_aload_n (k := 0) rfl (by decide +kernel)) ?_
  refine ak (ok_iload (by decide +kernel)) ?_
  refine ak (ok_invV (r := 40) (kK_counts hsd l) qK_counts ck11 kd40 iK_counts tw1633 tw74 (by decide) tw1631 (by decide +kernel)) ?_
  refine ak (ok_if_eq (off := 7) (by decide) (by decide +kernel)) ?_
  refine ak (ok_iconst (n := 1) (by decide) (by decide +kernel)) ?_
  refine ak (ok_goto (off := 4) (by decide) (by decide +kernel)) ?_
  refine ak (ok_iconst (n := 0) (by decide) (by decide +kernel)) ?_
  refine ak (ok_iadd (by decide +kernel)) ?_
  refine ak (ok_istore (by decide) (by decide +kernel)) ?_
  refine ak (ok_iinc (n := 1) (by decide) (by decide) (by decide +kernel)) ?_
  refine ak (ok_goto (off := (-123)) (by decide) (by decide +kernel)) ?_
  refine ak (ok_aload_n (k := 0) rfl (by decide +kernel)) ?_
  refine ak (ok_iload_n (k := 1) rfl (by decide +kernel)) ?_
  refine ak (ok_bipush (n := 9) (by decide) (by decide +kernel)) ?_
  refine ak (ok_aload_n (k := 0) rfl (by decide +kernel)) ?_
  refine ak (ok_get (k := 24) ck11 kd40 (by decide) (fun _ _ _ => rfl) (vf_40_24 hsd) tw1266 (by decide +kernel)) ?_
  refine ak (ok_iload_n (k := 2) rfl (by decide +kernel)) ?_
  refine ak (ok_iald kd65 (by decide) (by decide +kernel)) ?_
  refine ak (ok_invV (r := 40) (kK_sets hsd l) qK_sets ck11 kd40 iK_sets tw1384 tw43 (by decide) tw1382 (by decide +kernel)) ?_
  refine ak (ok_aload_n (k := 0) rfl (by decide +kernel)) ?_
  refine ak (ok_iload_n (k := 1) rfl (by decide +kernel)) ?_
  refine ak (ok_bipush (n := 6) (by decide) (by decide +kernel)) ?_
  refine ak (ok_iload (by decide +kernel)) ?_
  refine ak (ok_invV (r := 40) (kK_sets hsd l) qK_sets ck11 kd40 iK_sets tw1384 tw43 (by decide) tw1382 (by decide +kernel)) ?_
  refine ak (ok_aload_n (k := 0) rfl (by decide +kernel)) ?_
  refine ak (ok_iload_n (k := 1) rfl (by decide +kernel)) ?_
  refine ak (ok_bipush (n := 7) (by decide) (by decide +kernel)) ?_
  refine ak (ok_aload_n (k := 0) rfl (by decide +kernel)) ?_
  refine ak (ok_get (k := 0) ck11 kd40 (by decide) (fun _ _ _ => rfl) (vf_40_0 hsd) tw1242 (by decide +kernel)) ?_
  refine ak (ok_bipush (n := 6) (by decide) (by decide +kernel)) ?_
  refine ak (ok_iald kd41 (by decide) (by decide +kernel)) ?_
  refine ak (ok_invV (r := 40) (kK_sets hsd l) qK_sets ck11 kd40 iK_sets tw1384 tw43 (by decide) tw1382 (by decide +kernel)) ?_
  refine ak (ok_aload_n (k := 0) rfl (by decide +kernel)) ?_
  refine ak (ok_iload_n (k := 1) rfl (by decide +kernel)) ?_
  refine ak (ok_bipush (n := 8) (by decide) (by decide +kernel)) ?_
  refine ak (ok_aload_n (k := 0) rfl (by decide +kernel)) ?_
  refine ak (ok_iload_n (k := 1) rfl (by decide +kernel)) ?_
  refine ak (ok_iconst (n := 2) (by decide) (by decide +kernel)) ?_
  refine ak (ok_invV (r := 40) (kK_own hsd l) qK_own ck11 kd40 iK_own tw1363 tw41 (by decide) tw1361 (by decide +kernel)) ?_
  refine ak (ok_invV (r := 40) (kK_sets hsd l) qK_sets ck11 kd40 iK_sets tw1384 tw43 (by decide) tw1382 (by decide +kernel)) ?_
  refine ak (ok_iload (by decide +kernel)) ?_
  refine ak (ok_ireturn rfl (by decide +kernel)) ?_
  exact trivial
def KK_muster_172 (j135 : Int32 → Int32 → Int32 → Int32 → Mem → Option (Int32 × Mem)) : Jm (Int32 × Mem) := fun t als st M =>
  if t = 135 then (match als, st with
  | [.inr (.inr (.inl (al0, bl0, cl0))), .inl x1, .inl x2, _, .inl x4, .inl x5, _, _, _], [] => if al0 = 40 ∧ bl0 = 0 ∧ cl0 = 0 then j135 x1 x2 x4 x5 M else none
  | _, _ => none) else
  none
set_option maxRecDepth 1000000 in
theorem eK_muster_172 (j135 : Int32 → Int32 → Int32 → Int32 → Mem → Option (Int32 × Mem)) (x1 : Int32) (x2 : Int32) (x4 : Int32) (x5 : Int32) (y0 : Int32) (M : Mem) (u3 u6 u7 u8 : AV) : run (cK_muster) (KK_muster_172 j135) rtI 400 (seek (cK_muster) 172) [aR (40, 0, 0), aI x1, aI x2, u3, aI x4, aI x5, u6, u7, u8] [aI y0] M = mK_muster_172b j135 x1 x2 x4 x5 y0 M := id rfl
set_option maxRecDepth 100000 in
theorem lK_muster_172 {E : EV} {l : Launch} {p : Program} {e : Env} {s : State} {m : MethodId} {args : Array Value} {below : List Frame} {meth : Method} {c : Code} (A : AllOK E l 4 "FreeLancesModel" prog_13_method_80_code 9 (some .int) outI (cK_muster)) (C : Cx E p s m args meth c "FreeLancesModel" prog_13_method_80_code 9 (some .int)) {r135 : Int32 → Int32 → Int32 → Int32 → Mem → Option (Int32 × Mem)} (H135 : ∀ (x1 : Int32) (x2 : Int32) (x4 : Int32) (x5 : Int32) (M : Mem) (res : (Int32 × Mem)), r135 x1 x2 x4 x5 M = some res → ∀ (u3 u6 u7 u8 : AV), Wm E p l e 4 s m args below meth c 9 135 [aR (40, 0, 0), aI x1, aI x2, u3, aI x4, aI x5, u6, u7, u8] [] M (outI res).1 (outI res).2) : ∀ (x1 : Int32) (x2 : Int32) (x4 : Int32) (x5 : Int32) (y0 : Int32) (M : Mem) (res : (Int32 × Mem)), mK_muster_172 r135 x1 x2 x4 x5 y0 M = some res → ∀ (u3 u6 u7 u8 : AV), Wm E p l e 4 s m args below meth c 9 172 [aR (40, 0, 0), aI x1, aI x2, u3, aI x4, aI x5, u6, u7, u8] [aI y0] M (outI res).1 (outI res).2 := by
  intro x1 x2 x4 x5 y0 M res h u3 u6 u7 u8
  refine run_at C A rfl hrtI (n := 400) ((eK_muster_172 r135 x1 x2 x4 x5 y0 M u3 u6 u7 u8).trans h) ?_
  intro t als st M hk
  unfold KK_muster_172 at hk
  split at hk
  · rename_i ht
    subst ht
    split at hk
    · split at hk
      · rename_i hc
        obtain ⟨rfl, rfl, rfl⟩ := hc
        exact H135 _ _ _ _ _ _ hk _ _ _ _
      · cases hk
    · cases hk
  cases hk
def KK_muster_263 (j225 : Int32 → Int32 → Int32 → Int32 → Mem → Option (Int32 × Mem)) (j263 : Int32 → Int32 → Int32 → Int32 → Int32 → Int32 → Int32 → Mem → Option (Int32 × Mem)) : Jm (Int32 × Mem) := fun t als st M =>
  if t = 225 then (match als, st with
  | [.inr (.inr (.inl (al0, bl0, cl0))), .inl x1, .inl x2, _, .inl x4, .inl x5, _, _, _], [] => if al0 = 40 ∧ bl0 = 0 ∧ cl0 = 0 then j225 x1 x2 x4 x5 M else none
  | _, _ => none) else
  if t = 263 then (match als, st with
  | [.inr (.inr (.inl (al0, bl0, cl0))), .inl x1, .inl x2, _, .inl x4, .inl x5, .inl x6, .inl x7, .inl x8], [] => if al0 = 40 ∧ bl0 = 0 ∧ cl0 = 0 then j263 x1 x2 x4 x5 x6 x7 x8 M else none
  | _, _ => none) else
  none
set_option maxRecDepth 1000000 in
theorem eK_muster_263 (j225 : Int32 → Int32 → Int32 → Int32 → Mem → Option (Int32 × Mem)) (j263 : Int32 → Int32 → Int32 → Int32 → Int32 → Int32 → Int32 → Mem → Option (Int32 × Mem)) (x1 : Int32) (x2 : Int32) (x4 : Int32) (x5 : Int32) (x6 : Int32) (x7 : Int32) (x8 : Int32) (M : Mem) (u3 : AV) : run (cK_muster) (KK_muster_263 j225 j263) rtI 400 (seek (cK_muster) 263) [aR (40, 0, 0), aI x1, aI x2, u3, aI x4, aI x5, aI x6, aI x7, aI x8] [] M = mK_muster_263b j225 j263 x1 x2 x4 x5 x6 x7 x8 M := id rfl
set_option maxRecDepth 100000 in
theorem lK_muster_263 {E : EV} {l : Launch} {p : Program} {e : Env} {s : State} {m : MethodId} {args : Array Value} {below : List Frame} {meth : Method} {c : Code} (A : AllOK E l 4 "FreeLancesModel" prog_13_method_80_code 9 (some .int) outI (cK_muster)) (C : Cx E p s m args meth c "FreeLancesModel" prog_13_method_80_code 9 (some .int)) {r225 : Int32 → Int32 → Int32 → Int32 → Mem → Option (Int32 × Mem)} (H225 : ∀ (x1 : Int32) (x2 : Int32) (x4 : Int32) (x5 : Int32) (M : Mem) (res : (Int32 × Mem)), r225 x1 x2 x4 x5 M = some res → ∀ (u3 u6 u7 u8 : AV), Wm E p l e 4 s m args below meth c 9 225 [aR (40, 0, 0), aI x1, aI x2, u3, aI x4, aI x5, u6, u7, u8] [] M (outI res).1 (outI res).2) : ∀ (n : Nat), ∀ (x1 : Int32) (x2 : Int32) (x4 : Int32) (x5 : Int32) (x6 : Int32) (x7 : Int32) (x8 : Int32) (M : Mem) (res : (Int32 × Mem)), mK_muster_263 r225 n x1 x2 x4 x5 x6 x7 x8 M = some res → ∀ (u3 : AV), Wm E p l e 4 s m args below meth c 9 263 [aR (40, 0, 0), aI x1, aI x2, u3, aI x4, aI x5, aI x6, aI x7, aI x8] [] M (outI res).1 (outI res).2 := by
  intro n
  induction n with
  | zero => intro _ _ _ _ _ _ _ M res h; cases h
  | succ n ih =>
    intro x1 x2 x4 x5 x6 x7 x8 M res h u3
    refine run_at C A rfl hrtI (n := 400) ((eK_muster_263 r225 (mK_muster_263 r225 n) x1 x2 x4 x5 x6 x7 x8 M u3).trans h) ?_
    intro t als st M hk
    unfold KK_muster_263 at hk
    split at hk
    · rename_i ht
      subst ht
      split at hk
      · split at hk
        · rename_i hc
          obtain ⟨rfl, rfl, rfl⟩ := hc
          exact H225 _ _ _ _ _ _ hk _ _ _ _
        · cases hk
      · cases hk
    split at hk
    · rename_i ht
      subst ht
      split at hk
      · split at hk
        · rename_i hc
          obtain ⟨rfl, rfl, rfl⟩ := hc
          exact ih _ _ _ _ _ _ _ _ _ hk _
        · cases hk
      · cases hk
    cases hk
def KK_muster_225 (j263 : Int32 → Int32 → Int32 → Int32 → Int32 → Int32 → Int32 → Mem → Option (Int32 × Mem)) : Jm (Int32 × Mem) := fun t als st M =>
  if t = 263 then (match als, st with
  | [.inr (.inr (.inl (al0, bl0, cl0))), .inl x1, .inl x2, _, .inl x4, .inl x5, .inl x6, .inl x7, .inl x8], [] => if al0 = 40 ∧ bl0 = 0 ∧ cl0 = 0 then j263 x1 x2 x4 x5 x6 x7 x8 M else none
  | _, _ => none) else
  none
set_option maxRecDepth 1000000 in
theorem eK_muster_225 (j263 : Int32 → Int32 → Int32 → Int32 → Int32 → Int32 → Int32 → Mem → Option (Int32 × Mem)) (x1 : Int32) (x2 : Int32) (x4 : Int32) (x5 : Int32) (M : Mem) (u3 u6 u7 u8 : AV) : run (cK_muster) (KK_muster_225 j263) rtI 400 (seek (cK_muster) 225) [aR (40, 0, 0), aI x1, aI x2, u3, aI x4, aI x5, u6, u7, u8] [] M = mK_muster_225b j263 x1 x2 x4 x5 M := id rfl
set_option maxRecDepth 100000 in
theorem lK_muster_225 {E : EV} {l : Launch} {p : Program} {e : Env} {s : State} {m : MethodId} {args : Array Value} {below : List Frame} {meth : Method} {c : Code} (A : AllOK E l 4 "FreeLancesModel" prog_13_method_80_code 9 (some .int) outI (cK_muster)) (C : Cx E p s m args meth c "FreeLancesModel" prog_13_method_80_code 9 (some .int)) : ∀ (n : Nat), ∀ (x1 : Int32) (x2 : Int32) (x4 : Int32) (x5 : Int32) (M : Mem) (res : (Int32 × Mem)), mK_muster_225 n x1 x2 x4 x5 M = some res → ∀ (u3 u6 u7 u8 : AV), Wm E p l e 4 s m args below meth c 9 225 [aR (40, 0, 0), aI x1, aI x2, u3, aI x4, aI x5, u6, u7, u8] [] M (outI res).1 (outI res).2 := by
  intro n
  induction n with
  | zero => intro _ _ _ _ M res h; cases h
  | succ n ih =>
    intro x1 x2 x4 x5 M res h u3 u6 u7 u8
    refine run_at C A rfl hrtI (n := 400) ((eK_muster_225 (mK_muster_263 (mK_muster_225 n) fuel) x1 x2 x4 x5 M u3 u6 u7 u8).trans h) ?_
    intro t als st M hk
    unfold KK_muster_225 at hk
    split at hk
    · rename_i ht
      subst ht
      split at hk
      · split at hk
        · rename_i hc
          obtain ⟨rfl, rfl, rfl⟩ := hc
          exact lK_muster_263 A C ih _ _ _ _ _ _ _ _ _ _ hk _
        · cases hk
      · cases hk
    cases hk
def KK_muster_135 (j172 : Int32 → Int32 → Int32 → Int32 → Int32 → Mem → Option (Int32 × Mem)) (j225 : Int32 → Int32 → Int32 → Int32 → Mem → Option (Int32 × Mem)) : Jm (Int32 × Mem) := fun t als st M =>
  if t = 172 then (match als, st with
  | [.inr (.inr (.inl (al0, bl0, cl0))), .inl x1, .inl x2, _, .inl x4, .inl x5, _, _, _], [.inl y0] => if al0 = 40 ∧ bl0 = 0 ∧ cl0 = 0 then j172 x1 x2 x4 x5 y0 M else none
  | _, _ => none) else
  if t = 225 then (match als, st with
  | [.inr (.inr (.inl (al0, bl0, cl0))), .inl x1, .inl x2, _, .inl x4, .inl x5, _, _, _], [] => if al0 = 40 ∧ bl0 = 0 ∧ cl0 = 0 then j225 x1 x2 x4 x5 M else none
  | _, _ => none) else
  none
set_option maxRecDepth 1000000 in
theorem eK_muster_135 (j172 : Int32 → Int32 → Int32 → Int32 → Int32 → Mem → Option (Int32 × Mem)) (j225 : Int32 → Int32 → Int32 → Int32 → Mem → Option (Int32 × Mem)) (x1 : Int32) (x2 : Int32) (x4 : Int32) (x5 : Int32) (M : Mem) (u3 u6 u7 u8 : AV) : run (cK_muster) (KK_muster_135 j172 j225) rtI 400 (seek (cK_muster) 135) [aR (40, 0, 0), aI x1, aI x2, u3, aI x4, aI x5, u6, u7, u8] [] M = mK_muster_135b j172 j225 x1 x2 x4 x5 M := id rfl
set_option maxRecDepth 100000 in
theorem lK_muster_135 {E : EV} {l : Launch} {p : Program} {e : Env} {s : State} {m : MethodId} {args : Array Value} {below : List Frame} {meth : Method} {c : Code} (A : AllOK E l 4 "FreeLancesModel" prog_13_method_80_code 9 (some .int) outI (cK_muster)) (C : Cx E p s m args meth c "FreeLancesModel" prog_13_method_80_code 9 (some .int)) : ∀ (n : Nat), ∀ (x1 : Int32) (x2 : Int32) (x4 : Int32) (x5 : Int32) (M : Mem) (res : (Int32 × Mem)), mK_muster_135 n x1 x2 x4 x5 M = some res → ∀ (u3 u6 u7 u8 : AV), Wm E p l e 4 s m args below meth c 9 135 [aR (40, 0, 0), aI x1, aI x2, u3, aI x4, aI x5, u6, u7, u8] [] M (outI res).1 (outI res).2 := by
  intro n
  induction n with
  | zero => intro _ _ _ _ M res h; cases h
  | succ n ih =>
    intro x1 x2 x4 x5 M res h u3 u6 u7 u8
    refine run_at C A rfl hrtI (n := 400) ((eK_muster_135 (mK_muster_172 (mK_muster_135 n)) (mK_muster_225 fuel) x1 x2 x4 x5 M u3 u6 u7 u8).trans h) ?_
    intro t als st M hk
    unfold KK_muster_135 at hk
    split at hk
    · rename_i ht
      subst ht
      split at hk
      · split at hk
        · rename_i hc
          obtain ⟨rfl, rfl, rfl⟩ := hc
          exact lK_muster_172 A C ih _ _ _ _ _ _ _ hk _ _ _ _
        · cases hk
      · cases hk
    split at hk
    · rename_i ht
      subst ht
      split at hk
      · split at hk
        · rename_i hc
          obtain ⟨rfl, rfl, rfl⟩ := hc
          exact lK_muster_225 A C _ _ _ _ _ _ _ hk _ _ _ _
        · cases hk
      · cases hk
    cases hk
def KK_muster_71 (j71 : Int32 → Int32 → Int32 → Int32 → Mem → Option (Int32 × Mem)) (j135 : Int32 → Int32 → Int32 → Int32 → Mem → Option (Int32 × Mem)) : Jm (Int32 × Mem) := fun t als st M =>
  if t = 71 then (match als, st with
  | [.inr (.inr (.inl (al0, bl0, cl0))), .inl x1, .inl x2, .inl x3, .inl x4, _, _, _, _], [] => if al0 = 40 ∧ bl0 = 0 ∧ cl0 = 0 then j71 x1 x2 x3 x4 M else none
  | _, _ => none) else
  if t = 135 then (match als, st with
  | [.inr (.inr (.inl (al0, bl0, cl0))), .inl x1, .inl x2, _, .inl x4, .inl x5, _, _, _], [] => if al0 = 40 ∧ bl0 = 0 ∧ cl0 = 0 then j135 x1 x2 x4 x5 M else none
  | _, _ => none) else
  none
set_option maxRecDepth 1000000 in
theorem eK_muster_71 (j71 : Int32 → Int32 → Int32 → Int32 → Mem → Option (Int32 × Mem)) (j135 : Int32 → Int32 → Int32 → Int32 → Mem → Option (Int32 × Mem)) (x1 : Int32) (x2 : Int32) (x3 : Int32) (x4 : Int32) (M : Mem) (u5 u6 u7 u8 : AV) : run (cK_muster) (KK_muster_71 j71 j135) rtI 400 (seek (cK_muster) 71) [aR (40, 0, 0), aI x1, aI x2, aI x3, aI x4, u5, u6, u7, u8] [] M = mK_muster_71b j71 j135 x1 x2 x3 x4 M := id rfl
set_option maxRecDepth 100000 in
theorem lK_muster_71 {E : EV} {l : Launch} {p : Program} {e : Env} {s : State} {m : MethodId} {args : Array Value} {below : List Frame} {meth : Method} {c : Code} (A : AllOK E l 4 "FreeLancesModel" prog_13_method_80_code 9 (some .int) outI (cK_muster)) (C : Cx E p s m args meth c "FreeLancesModel" prog_13_method_80_code 9 (some .int)) : ∀ (n : Nat), ∀ (x1 : Int32) (x2 : Int32) (x3 : Int32) (x4 : Int32) (M : Mem) (res : (Int32 × Mem)), mK_muster_71 n x1 x2 x3 x4 M = some res → ∀ (u5 u6 u7 u8 : AV), Wm E p l e 4 s m args below meth c 9 71 [aR (40, 0, 0), aI x1, aI x2, aI x3, aI x4, u5, u6, u7, u8] [] M (outI res).1 (outI res).2 := by
  intro n
  induction n with
  | zero => intro _ _ _ _ M res h; cases h
  | succ n ih =>
    intro x1 x2 x3 x4 M res h u5 u6 u7 u8
    refine run_at C A rfl hrtI (n := 400) ((eK_muster_71 (mK_muster_71 n) (mK_muster_135 fuel) x1 x2 x3 x4 M u5 u6 u7 u8).trans h) ?_
    intro t als st M hk
    unfold KK_muster_71 at hk
    split at hk
    · rename_i ht
      subst ht
      split at hk
      · split at hk
        · rename_i hc
          obtain ⟨rfl, rfl, rfl⟩ := hc
          exact ih _ _ _ _ _ _ hk _ _ _ _
        · cases hk
      · cases hk
    split at hk
    · rename_i ht
      subst ht
      split at hk
      · split at hk
        · rename_i hc
          obtain ⟨rfl, rfl, rfl⟩ := hc
          exact lK_muster_135 A C _ _ _ _ _ _ _ hk _ _ _ _
        · cases hk
      · cases hk
    cases hk
def KK_muster (j71 : Int32 → Int32 → Int32 → Int32 → Mem → Option (Int32 × Mem)) : Jm (Int32 × Mem) := fun t als st M =>
  if t = 71 then (match als, st with
  | [.inr (.inr (.inl (al0, bl0, cl0))), .inl x1, .inl x2, .inl x3, .inl x4, _, _, _, _], [] => if al0 = 40 ∧ bl0 = 0 ∧ cl0 = 0 then j71 x1 x2 x3 x4 M else none
  | _, _ => none) else
  none
set_option maxRecDepth 1000000 in
theorem eK_muster (j71 : Int32 → Int32 → Int32 → Int32 → Mem → Option (Int32 × Mem)) (x1 : Int32) (x2 : Int32) (M : Mem) : run (cK_muster) (KK_muster j71) rtI 400 (seek (cK_muster) 0) [aR (40, 0, 0), aI x1, aI x2, aU, aU, aU, aU, aU, aU] [] M = mK_musterb j71 x1 x2 M := id rfl
set_option maxRecDepth 100000 in
theorem lK_muster {E : EV} {l : Launch} {p : Program} {e : Env} {s : State} {m : MethodId} {args : Array Value} {below : List Frame} {meth : Method} {c : Code} (A : AllOK E l 4 "FreeLancesModel" prog_13_method_80_code 9 (some .int) outI (cK_muster)) (C : Cx E p s m args meth c "FreeLancesModel" prog_13_method_80_code 9 (some .int)) : ∀ (x1 : Int32) (x2 : Int32) (M : Mem) (res : (Int32 × Mem)), mK_muster x1 x2 M = some res → Wm E p l e 4 s m args below meth c 9 0 [aR (40, 0, 0), aI x1, aI x2, aU, aU, aU, aU, aU, aU] [] M (outI res).1 (outI res).2 := by
  intro x1 x2 M res h
  refine run_at C A rfl hrtI (n := 400) ((eK_muster (mK_muster_71 fuel) x1 x2 M).trans h) ?_
  intro t als st M hk
  unfold KK_muster at hk
  split at hk
  · rename_i ht
    subst ht
    split at hk
    · split at hk
      · rename_i hc
        obtain ⟨rfl, rfl, rfl⟩ := hc
        exact lK_muster_71 A C _ _ _ _ _ _ _ hk _ _ _ _
      · cases hk
    · cases hk
  cases hk
def dK_muster {β : Type} : Den β := fun as M k => match as with
  | [.inr (.inr (.inl (al0, bl0, cl0))), .inl x1, .inl x2] => if al0 = 40 ∧ bl0 = 0 ∧ cl0 = 0 then (mK_muster x1 x2 M).bind fun q => k (aI q.1) q.2 else none
  | _ => none
theorem wK_muster {E : EV} (hsd : E.2.2.2 = 1) (l : Launch) (x1 : Int32) (x2 : Int32) (M : Mem) (q : (Int32 × Mem)) (hq : mK_muster x1 x2 M = some q) : Con E l 4 yK_muster prog_13_method_80_code 9 (some .int) [aR (40, 0, 0), aI x1, aI x2] M (outI q).1 (outI q).2 := by
  refine con_of iK_muster (Nat.le_of_ble_eq_true rfl) ?_
  intro p e s m args below meth c C
  exact lK_muster (oK_muster hsd l) C x1 x2 M _ hq
theorem kK_muster {E : EV} (hsd : E.2.2.2 = 1) (l : Launch) {β : Type} : DenOK E l 4 yK_muster prog_13_method_80_code 9 (some .int) true (dK_muster (β := β)) := by
  intro as M k res h
  unfold dK_muster at h
  split at h
  ·
    split at h
    · rename_i hc
      obtain ⟨rfl, rfl, rfl⟩ := hc
      obtain ⟨q, hq, hk⟩ := Option.bind_eq_some_iff.mp h
      exact ⟨aI q.1, q.2, hk, rfl, wK_muster hsd l _ _ M q hq⟩
    · cases h
  · cases h
theorem qK_muster {β : Type} : RecOK 40 (dK_muster (β := β)) := by
  intro as M k res h
  unfold dK_muster at h
  split at h
  ·
    split at h
    · rename_i hc
      obtain ⟨rfl, rfl, rfl⟩ := hc
      exact ⟨_, _, _, rfl⟩
    · cases h
  · cases h
/-! ===== FreeLancesModel.isShown(II)Z ===== -/
abbrev yK_isShown : MethodName := ⟨"FreeLancesModel", "isShown", "(II)Z"⟩
theorem iK_isShown : MI yK_isShown prog_13_method_81_code 4 (some .boolean) 2 := ⟨tw1646, tw108, ⟨by decide, by decide⟩, by decide +kernel, by decide, by decide⟩
def cK_isShown : List (Ent (Int32 × Mem)) := [(false, 0, 1, sC 0),
  (false, 1, 1, sStI 3),
  (true, 2, 1, sLdI 3),
  (false, 3, 1, sLdA 0),
  (false, 4, 1, sLdI 1),
  (false, 5, 2, sC 9),
  (false, 7, 3, sInv 3 true dK_own),
  (false, 10, 3, sCmpGe 34),
  (false, 13, 1, sLdA 0),
  (false, 14, 1, sLdI 1),
  (false, 15, 2, sC 10),
  (false, 17, 1, sLdI 3),
  (false, 18, 1, sBin (fun x y => x + y)),
  (false, 19, 3, sInv 3 true dK_own),
  (false, 22, 1, sLdI 2),
  (false, 23, 3, sCmpNe 28),
  (false, 26, 1, sC 1),
  (false, 27, 1, sRetZ),
  (false, 28, 3, sInc 3 1),
  (false, 31, 3, sGoto 2),
  (false, 34, 1, sC 0),
  (false, 35, 1, sRetZ)]
theorem oK_isShown {E : EV} (hsd : E.2.2.2 = 1) (l : Launch) : AllOK E l 2 "FreeLancesModel" prog_13_method_81_code 4 (some .boolean) outI (cK_isShown) := by
  refine ak (ok_iconst (n := 0) (by decide) (by decide +kernel)) ?_
  refine ak (ok_istore_n (k := 3) rfl (by decide) (by decide +kernel)) ?_
  refine ak (ok_iload_n (k := 3) rfl (by decide +kernel)) ?_
  refine ak (ok_aload_n (k := 0) rfl (by decide +kernel)) ?_
  refine ak (ok_iload_n (k := 1) rfl (by decide +kernel)) ?_
  refine ak (ok_bipush (n := 9) (by decide) (by decide +kernel)) ?_
  refine ak (ok_invV (r := 40) (kK_own hsd l) qK_own ck11 kd40 iK_own tw1363 tw41 (by decide) tw1361 (by decide +kernel)) ?_
  refine ak (ok_icmp_ge (off := 24) (by decide) (by decide +kernel)) ?_
  refine ak (ok_aload_n (k := 0) rfl (by decide +kernel)) ?_
  refine ak (ok_iload_n (k := 1) rfl (by decide +kernel)) ?_
  refine ak (ok_bipush (n := 10) (by decide) (by decide +kernel)) ?_
  refine ak (ok_iload_n (k := 3) rfl (by decide +kernel)) ?_
  refine ak (ok_iadd (by decide +kernel)) ?_
  refine ak (ok_invV (r := 40) (kK_own hsd l) qK_own ck11 kd40 iK_own tw1363 tw41 (by decide) tw1361 (by decide +kernel)) ?_
  refine ak (ok_iload_n (k := 2) rfl (by decide +kernel)) ?_
  refine ak (ok_icmp_ne (off := 5) (by decide) (by decide +kernel)) ?_
  refine ak (ok_iconst (n := 1) (by decide) (by decide +kernel)) ?_
  refine ak (ok_zreturn rfl (by decide +kernel)) ?_
  refine ak (ok_iinc (n := 1) (by decide) (by decide) (by decide +kernel)) ?_
  refine ak (ok_goto (off := (-29)) (by decide) (by decide +kernel)) ?_
  refine ak (ok_iconst (n := 0) (by decide) (by decide +kernel)) ?_
  refine ak (ok_zreturn rfl (by decide +kernel)) ?_
  exact trivial
def KK_isShown_2 (j2 : Int32 → Int32 → Int32 → Mem → Option (Int32 × Mem)) : Jm (Int32 × Mem) := fun t als st M =>
  if t = 2 then (match als, st with
  | [.inr (.inr (.inl (al0, bl0, cl0))), .inl x1, .inl x2, .inl x3], [] => if al0 = 40 ∧ bl0 = 0 ∧ cl0 = 0 then j2 x1 x2 x3 M else none
  | _, _ => none) else
  none
set_option maxRecDepth 1000000 in
theorem eK_isShown_2 (j2 : Int32 → Int32 → Int32 → Mem → Option (Int32 × Mem)) (x1 : Int32) (x2 : Int32) (x3 : Int32) (M : Mem) : run (cK_isShown) (KK_isShown_2 j2) rtI 400 (seek (cK_isShown) 2) [aR (40, 0, 0), aI x1, aI x2, aI x3] [] M = mK_isShown_2b j2 x1 x2 x3 M := id rfl
theorem lK_isShown_2 {E : EV} {l : Launch} {p : Program} {e : Env} {s : State} {m : MethodId} {args : Array Value} {below : List Frame} {meth : Method} {c : Code} (A : AllOK E l 2 "FreeLancesModel" prog_13_method_81_code 4 (some .boolean) outI (cK_isShown)) (C : Cx E p s m args meth c "FreeLancesModel" prog_13_method_81_code 4 (some .boolean)) : ∀ (n : Nat), ∀ (x1 : Int32) (x2 : Int32) (x3 : Int32) (M : Mem) (res : (Int32 × Mem)), mK_isShown_2 n x1 x2 x3 M = some res → Wm E p l e 2 s m args below meth c 4 2 [aR (40, 0, 0), aI x1, aI x2, aI x3] [] M (outI res).1 (outI res).2 := by
  intro n
  induction n with
  | zero => intro _ _ _ M res h; cases h
  | succ n ih =>
    intro x1 x2 x3 M res h
    refine run_at C A rfl hrtI (n := 400) ((eK_isShown_2 (mK_isShown_2 n) x1 x2 x3 M).trans h) ?_
    intro t als st M hk
    unfold KK_isShown_2 at hk
    split at hk
    · rename_i ht
      subst ht
      split at hk
      · split at hk
        · rename_i hc
          obtain ⟨rfl, rfl, rfl⟩ := hc
          exact ih _ _ _ _ _ hk
        · cases hk
      · cases hk
    cases hk
def KK_isShown (j2 : Int32 → Int32 → Int32 → Mem → Option (Int32 × Mem)) : Jm (Int32 × Mem) := fun t als st M =>
  if t = 2 then (match als, st with
  | [.inr (.inr (.inl (al0, bl0, cl0))), .inl x1, .inl x2, .inl x3], [] => if al0 = 40 ∧ bl0 = 0 ∧ cl0 = 0 then j2 x1 x2 x3 M else none
  | _, _ => none) else
  none
set_option maxRecDepth 1000000 in
theorem eK_isShown (j2 : Int32 → Int32 → Int32 → Mem → Option (Int32 × Mem)) (x1 : Int32) (x2 : Int32) (M : Mem) : run (cK_isShown) (KK_isShown j2) rtI 400 (seek (cK_isShown) 0) [aR (40, 0, 0), aI x1, aI x2, aU] [] M = mK_isShownb j2 x1 x2 M := id rfl
theorem lK_isShown {E : EV} {l : Launch} {p : Program} {e : Env} {s : State} {m : MethodId} {args : Array Value} {below : List Frame} {meth : Method} {c : Code} (A : AllOK E l 2 "FreeLancesModel" prog_13_method_81_code 4 (some .boolean) outI (cK_isShown)) (C : Cx E p s m args meth c "FreeLancesModel" prog_13_method_81_code 4 (some .boolean)) : ∀ (x1 : Int32) (x2 : Int32) (M : Mem) (res : (Int32 × Mem)), mK_isShown x1 x2 M = some res → Wm E p l e 2 s m args below meth c 4 0 [aR (40, 0, 0), aI x1, aI x2, aU] [] M (outI res).1 (outI res).2 := by
  intro x1 x2 M res h
  refine run_at C A rfl hrtI (n := 400) ((eK_isShown (mK_isShown_2 fuel) x1 x2 M).trans h) ?_
  intro t als st M hk
  unfold KK_isShown at hk
  split at hk
  · rename_i ht
    subst ht
    split at hk
    · split at hk
      · rename_i hc
        obtain ⟨rfl, rfl, rfl⟩ := hc
        exact lK_isShown_2 A C _ _ _ _ _ _ hk
      · cases hk
    · cases hk
  cases hk
def dK_isShown {β : Type} : Den β := fun as M k => match as with
  | [.inr (.inr (.inl (al0, bl0, cl0))), .inl x1, .inl x2] => if al0 = 40 ∧ bl0 = 0 ∧ cl0 = 0 then (mK_isShown x1 x2 M).bind fun q => k (aI q.1) q.2 else none
  | _ => none
theorem wK_isShown {E : EV} (hsd : E.2.2.2 = 1) (l : Launch) (x1 : Int32) (x2 : Int32) (M : Mem) (q : (Int32 × Mem)) (hq : mK_isShown x1 x2 M = some q) : Con E l 2 yK_isShown prog_13_method_81_code 4 (some .boolean) [aR (40, 0, 0), aI x1, aI x2] M (outI q).1 (outI q).2 := by
  refine con_of iK_isShown (Nat.le_of_ble_eq_true rfl) ?_
  intro p e s m args below meth c C
  exact lK_isShown (oK_isShown hsd l) C x1 x2 M _ hq
theorem kK_isShown {E : EV} (hsd : E.2.2.2 = 1) (l : Launch) {β : Type} : DenOK E l 2 yK_isShown prog_13_method_81_code 4 (some .boolean) true (dK_isShown (β := β)) := by
  intro as M k res h
  unfold dK_isShown at h
  split at h
  ·
    split at h
    · rename_i hc
      obtain ⟨rfl, rfl, rfl⟩ := hc
      obtain ⟨q, hq, hk⟩ := Option.bind_eq_some_iff.mp h
      exact ⟨aI q.1, q.2, hk, rfl, wK_isShown hsd l _ _ M q hq⟩
    · cases h
  · cases h
theorem qK_isShown {β : Type} : RecOK 40 (dK_isShown (β := β)) := by
  intro as M k res h
  unfold dK_isShown at h
  split at h
  ·
    split at h
    · rename_i hc
      obtain ⟨rfl, rfl, rfl⟩ := hc
      exact ⟨_, _, _, rfl⟩
    · cases h
  · cases h
/-! ===== FreeLancesModel.twiceOf(III)I ===== -/
abbrev yK_twiceOf : MethodName := ⟨"FreeLancesModel", "twiceOf", "(III)I"⟩
theorem iK_twiceOf : MI yK_twiceOf prog_13_method_82_code 6 (some .int) 3 := ⟨tw1642, tw108, ⟨by decide, by decide⟩, by decide +kernel, by decide, by decide⟩
def cK_twiceOf : List (Ent (Int32 × Mem)) := [(false, 0, 1, sLdA 0),
  (false, 1, 1, sLdI 2),
  (false, 2, 1, sLdI 1),
  (false, 3, 3, sInv 3 true dK_isShown),
  (false, 6, 3, sIfEq 18),
  (false, 9, 1, sLdA 0),
  (false, 10, 1, sLdI 3),
  (false, 11, 1, sLdI 1),
  (false, 12, 3, sInv 3 true dK_isShown),
  (false, 15, 3, sIfNe 20),
  (false, 18, 1, sC 0),
  (false, 19, 1, sRetI),
  (false, 20, 1, sLdA 0),
  (false, 21, 1, sLdI 2),
  (false, 22, 2, sC 7),
  (false, 24, 3, sInv 3 true dK_own),
  (false, 27, 1, sLdA 0),
  (false, 28, 1, sLdI 3),
  (false, 29, 2, sC 7),
  (false, 31, 3, sInv 3 true dK_own),
  (false, 34, 1, sBin (fun x y => x - y)),
  (false, 35, 2, sStI 4),
  (false, 37, 1, sLdA 0),
  (false, 38, 1, sLdA 0),
  (false, 39, 1, sLdI 2),
  (false, 40, 2, sC 8),
  (false, 42, 3, sInv 3 true dK_own),
  (false, 45, 1, sLdA 0),
  (false, 46, 1, sLdI 3),
  (false, 47, 2, sC 8),
  (false, 49, 3, sInv 3 true dK_own),
  (false, 52, 3, sInv 3 true dK_farOf),
  (false, 55, 2, sStI 5),
  (false, 57, 2, sLdI 5),
  (false, 59, 3, sIfLt 80),
  (false, 62, 2, sLdI 4),
  (false, 64, 3, sIfGe 73),
  (false, 67, 2, sLdI 4),
  (false, 69, 1, sUn (fun x => -x)),
  (false, 70, 3, sGoto 75),
  (false, 73, 2, sLdI 4),
  (false, 75, 2, sLdI 5),
  (false, 77, 3, sCmpGe 84),
  (false, 80, 1, sC 2),
  (false, 81, 3, sGoto 85),
  (false, 84, 1, sC 1),
  (false, 85, 1, sRetI)]
theorem oK_twiceOf {E : EV} (hsd : E.2.2.2 = 1) (l : Launch) : AllOK E l 3 "FreeLancesModel" prog_13_method_82_code 6 (some .int) outI (cK_twiceOf) := by
  refine ak (ok_aload_n (k := 0) rfl (by decide +kernel)) ?_
  refine ak (ok_iload_n (k := 2) rfl (by decide +kernel)) ?_
  refine ak (ok_iload_n (k := 1) rfl (by decide +kernel)) ?_
  refine ak (ok_invV (r := 40) (kK_isShown hsd l) qK_isShown ck11 kd40 iK_isShown tw1645 tw76 (by decide) tw1643 (by decide +kernel)) ?_
  refine ak (ok_if_eq (off := 12) (by decide) (by decide +kernel)) ?_
  refine ak (ok_aload_n (k := 0) rfl (by decide +kernel)) ?_
  refine ak (ok_iload_n (k := 3) rfl (by decide +kernel)) ?_
  refine ak (ok_iload_n (k := 1) rfl (by decide +kernel)) ?_
  refine ak (ok_invV (r := 40) (kK_isShown hsd l) qK_isShown ck11 kd40 iK_isShown tw1645 tw76 (by decide) tw1643 (by decide +kernel)) ?_
  refine ak (ok_if_ne (off := 5) (by decide) (by decide +kernel)) ?_
  refine ak (ok_iconst (n := 0) (by decide) (by decide +kernel)) ?_
  refine ak (ok_ireturn rfl (by decide +kernel)) ?_
  refine ak (ok_aload_n (k := 0) rfl (by decide +kernel)) ?_
  refine ak (ok_iload_n (k := 2) rfl (by decide +kernel)) ?_
  refine ak (ok_bipush (n := 7) (by decide) (by decide +kernel)) ?_
  refine ak (ok_invV (r := 40) (kK_own hsd l) qK_own ck11 kd40 iK_own tw1363 tw41 (by decide) tw1361 (by decide +kernel)) ?_
  refine ak (ok_aload_n (k := 0) rfl (by decide +kernel)) ?_
  refine ak (ok_iload_n (k := 3) rfl (by decide +kernel)) ?_
  refine ak (ok_bipush (n := 7) (by decide) (by decide +kernel)) ?_
  refine ak (ok_invV (r := 40) (kK_own hsd l) qK_own ck11 kd40 iK_own tw1363 tw41 (by decide) tw1361 (by decide +kernel)) ?_
  refine ak (ok_isub (by decide +kernel)) ?_
  refine ak (ok_istore (by decide) (by decide +kernel)) ?_
  refine ak (ok_aload_n (k := 0) rfl (by decide +kernel)) ?_
  refine ak (ok_aload_n (k := 0) rfl (by decide +kernel)) ?_
  refine ak (ok_iload_n (k := 2) rfl (by decide +kernel)) ?_
  refine ak (ok_bipush (n := 8) (by decide) (by decide +kernel)) ?_
  refine ak (ok_invV (r := 40) (kK_own hsd l) qK_own ck11 kd40 iK_own tw1363 tw41 (by decide) tw1361 (by decide +kernel)) ?_
  refine ak (ok_aload_n (k := 0) rfl (by decide +kernel)) ?_
  refine ak (ok_iload_n (k := 3) rfl (by decide +kernel)) ?_
  refine ak (ok_bipush (n := 8) (by decide) (by decide +kernel)) ?_
  refine ak (ok_invV (r := 40) (kK_own hsd l) qK_own ck11 kd40 iK_own tw1363 tw41 (by decide) tw1361 (by decide +kernel)) ?_
  refine ak (ok_invV (r := 40) (kK_farOf hsd l) qK_farOf ck11 kd40 iK_farOf tw1351 tw39 (by decide) tw1349 (by decide +kernel)) ?_
  refine ak (ok_istore (by decide) (by decide +kernel)) ?_
  refine ak (ok_iload (by decide +kernel)) ?_
  refine ak (ok_if_lt (off := 21) (by decide) (by decide +kernel)) ?_
  refine ak (ok_iload (by decide +kernel)) ?_
  refine ak (ok_if_ge (off := 9) (by decide) (by decide +kernel)) ?_
  refine ak (ok_iload (by decide +kernel)) ?_
  refine ak (ok_ineg (by decide +kernel)) ?_
  refine ak (ok_goto (off := 5) (by decide) (by decide +kernel)) ?_
  refine ak (ok_iload (by decide +kernel)) ?_
  refine ak (ok_iload (by decide +kernel)) ?_
  refine ak (ok_icmp_ge (off := 7) (by decide) (by decide +kernel)) ?_
  refine ak (ok_iconst (n := 2) (by decide) (by decide +kernel)) ?_
  refine ak (ok_goto (off := 4) (by decide) (by decide +kernel)) ?_
  refine ak (ok_iconst (n := 1) (by decide) (by decide +kernel)) ?_
  refine ak (ok_ireturn rfl (by decide +kernel)) ?_
  exact trivial
set_option maxRecDepth 1000000 in
theorem eK_twiceOf (x1 : Int32) (x2 : Int32) (x3 : Int32) (M : Mem) : run (cK_twiceOf) (fun _ _ _ _ => none) rtI 400 (seek (cK_twiceOf) 0) [aR (40, 0, 0), aI x1, aI x2, aI x3, aU, aU] [] M = mK_twiceOf x1 x2 x3 M := id rfl
theorem lK_twiceOf {E : EV} {l : Launch} {p : Program} {e : Env} {s : State} {m : MethodId} {args : Array Value} {below : List Frame} {meth : Method} {c : Code} (A : AllOK E l 3 "FreeLancesModel" prog_13_method_82_code 6 (some .int) outI (cK_twiceOf)) (C : Cx E p s m args meth c "FreeLancesModel" prog_13_method_82_code 6 (some .int)) : ∀ (x1 : Int32) (x2 : Int32) (x3 : Int32) (M : Mem) (res : (Int32 × Mem)), mK_twiceOf x1 x2 x3 M = some res → Wm E p l e 3 s m args below meth c 6 0 [aR (40, 0, 0), aI x1, aI x2, aI x3, aU, aU] [] M (outI res).1 (outI res).2 := by
  intro x1 x2 x3 M res h
  refine run_at C A rfl hrtI (n := 400) ((eK_twiceOf x1 x2 x3 M).trans h) ?_
  intro t als st M hk; cases hk
def dK_twiceOf {β : Type} : Den β := fun as M k => match as with
  | [.inr (.inr (.inl (al0, bl0, cl0))), .inl x1, .inl x2, .inl x3] => if al0 = 40 ∧ bl0 = 0 ∧ cl0 = 0 then (mK_twiceOf x1 x2 x3 M).bind fun q => k (aI q.1) q.2 else none
  | _ => none
theorem wK_twiceOf {E : EV} (hsd : E.2.2.2 = 1) (l : Launch) (x1 : Int32) (x2 : Int32) (x3 : Int32) (M : Mem) (q : (Int32 × Mem)) (hq : mK_twiceOf x1 x2 x3 M = some q) : Con E l 3 yK_twiceOf prog_13_method_82_code 6 (some .int) [aR (40, 0, 0), aI x1, aI x2, aI x3] M (outI q).1 (outI q).2 := by
  refine con_of iK_twiceOf (Nat.le_of_ble_eq_true rfl) ?_
  intro p e s m args below meth c C
  exact lK_twiceOf (oK_twiceOf hsd l) C x1 x2 x3 M _ hq
theorem kK_twiceOf {E : EV} (hsd : E.2.2.2 = 1) (l : Launch) {β : Type} : DenOK E l 3 yK_twiceOf prog_13_method_82_code 6 (some .int) true (dK_twiceOf (β := β)) := by
  intro as M k res h
  unfold dK_twiceOf at h
  split at h
  ·
    split at h
    · rename_i hc
      obtain ⟨rfl, rfl, rfl⟩ := hc
      obtain ⟨q, hq, hk⟩ := Option.bind_eq_some_iff.mp h
      exact ⟨aI q.1, q.2, hk, rfl, wK_twiceOf hsd l _ _ _ M q hq⟩
    · cases h
  · cases h
theorem qK_twiceOf {β : Type} : RecOK 40 (dK_twiceOf (β := β)) := by
  intro as M k res h
  unfold dK_twiceOf at h
  split at h
  ·
    split at h
    · rename_i hc
      obtain ⟨rfl, rfl, rfl⟩ := hc
      exact ⟨_, _, _, rfl⟩
    · cases h
  · cases h
/-! ===== FreeLancesModel.twice(III)I ===== -/
abbrev yK_twice : MethodName := ⟨"FreeLancesModel", "twice", "(III)I"⟩
theorem iK_twice : MI yK_twice prog_13_method_83_code 4 (some .int) 3 := ⟨tw1638, tw108, ⟨by decide, by decide⟩, by decide +kernel, by decide, by decide⟩
def cK_twice : List (Ent (Int32 × Mem)) := [(false, 0, 1, sLdI 1),
  (false, 1, 1, sC 0),
  (false, 2, 2, sC 99),
  (false, 4, 3, sInv 3 true dK_in),
  (false, 7, 3, sIfEq 31),
  (false, 10, 1, sLdA 0),
  (false, 11, 1, sLdI 2),
  (false, 12, 3, sInv 2 true dK_isCompany),
  (false, 15, 3, sIfEq 31),
  (false, 18, 1, sLdA 0),
  (false, 19, 1, sLdI 3),
  (false, 20, 3, sInv 2 true dK_isCompany),
  (false, 23, 3, sIfEq 31),
  (false, 26, 1, sLdI 2),
  (false, 27, 1, sLdI 3),
  (false, 28, 3, sCmpNe 37),
  (false, 31, 1, sLdA 0),
  (false, 32, 1, sC 1),
  (false, 33, 3, sInv 2 true dK_finds),
  (false, 36, 1, sRetI),
  (false, 37, 1, sLdA 0),
  (false, 38, 1, sLdI 1),
  (false, 39, 1, sLdI 2),
  (false, 40, 1, sLdI 3),
  (false, 41, 3, sInv 4 true dK_twiceOf),
  (false, 44, 1, sRetI)]
theorem oK_twice {E : EV} (hsd : E.2.2.2 = 1) (l : Launch) : AllOK E l 4 "FreeLancesModel" prog_13_method_83_code 4 (some .int) outI (cK_twice) := by
  refine ak (ok_iload_n (k := 1) rfl (by decide +kernel)) ?_
  refine ak (ok_iconst (n := 0) (by decide) (by decide +kernel)) ?_
  refine ak (ok_bipush (n := 99) (by decide) (by decide +kernel)) ?_
  refine ak (ok_invS (kK_in hsd l) iK_in tw1330 (by decide) tw1329 (by decide +kernel)) ?_
  refine ak (ok_if_eq (off := 24) (by decide) (by decide +kernel)) ?_
  refine ak (ok_aload_n (k := 0) rfl (by decide +kernel)) ?_
  refine ak (ok_iload_n (k := 2) rfl (by decide +kernel)) ?_
  refine ak (ok_invV (r := 40) (kK_isCompany hsd l) qK_isCompany ck11 kd40 iK_isCompany tw1392 tw44 (by decide) tw1390 (by decide +kernel)) ?_
  refine ak (ok_if_eq (off := 16) (by decide) (by decide +kernel)) ?_
  refine ak (ok_aload_n (k := 0) rfl (by decide +kernel)) ?_
  refine ak (ok_iload_n (k := 3) rfl (by decide +kernel)) ?_
  refine ak (ok_invV (r := 40) (kK_isCompany hsd l) qK_isCompany ck11 kd40 iK_isCompany tw1392 tw44 (by decide) tw1390 (by decide +kernel)) ?_
  refine ak (ok_if_eq (off := 8) (by decide) (by decide +kernel)) ?_
  refine ak (ok_iload_n (k := 2) rfl (by decide +kernel)) ?_
  refine ak (ok_iload_n (k := 3) rfl (by decide +kernel)) ?_
  refine ak (ok_icmp_ne (off := 9) (by decide) (by decide +kernel)) ?_
  refine ak (ok_aload_n (k := 0) rfl (by decide +kernel)) ?_
  refine ak (ok_iconst (n := 1) (by decide) (by decide +kernel)) ?_
  refine ak (ok_invV (r := 40) (kK_finds hsd l) qK_finds ck11 kd40 iK_finds tw1334 tw37 (by decide) tw1332 (by decide +kernel)) ?_
  refine ak (ok_ireturn rfl (by decide +kernel)) ?_
  refine ak (ok_aload_n (k := 0) rfl (by decide +kernel)) ?_
  refine ak (ok_iload_n (k := 1) rfl (by decide +kernel)) ?_
  refine ak (ok_iload_n (k := 2) rfl (by decide +kernel)) ?_
  refine ak (ok_iload_n (k := 3) rfl (by decide +kernel)) ?_
  refine ak (ok_invV (r := 40) (kK_twiceOf hsd l) qK_twiceOf ck11 kd40 iK_twiceOf tw1641 tw75 (by decide) tw1639 (by decide +kernel)) ?_
  refine ak (ok_ireturn rfl (by decide +kernel)) ?_
  exact trivial
set_option maxRecDepth 1000000 in
theorem eK_twice (x1 : Int32) (x2 : Int32) (x3 : Int32) (M : Mem) : run (cK_twice) (fun _ _ _ _ => none) rtI 400 (seek (cK_twice) 0) [aR (40, 0, 0), aI x1, aI x2, aI x3] [] M = mK_twice x1 x2 x3 M := id rfl
theorem lK_twice {E : EV} {l : Launch} {p : Program} {e : Env} {s : State} {m : MethodId} {args : Array Value} {below : List Frame} {meth : Method} {c : Code} (A : AllOK E l 4 "FreeLancesModel" prog_13_method_83_code 4 (some .int) outI (cK_twice)) (C : Cx E p s m args meth c "FreeLancesModel" prog_13_method_83_code 4 (some .int)) : ∀ (x1 : Int32) (x2 : Int32) (x3 : Int32) (M : Mem) (res : (Int32 × Mem)), mK_twice x1 x2 x3 M = some res → Wm E p l e 4 s m args below meth c 4 0 [aR (40, 0, 0), aI x1, aI x2, aI x3] [] M (outI res).1 (outI res).2 := by
  intro x1 x2 x3 M res h
  refine run_at C A rfl hrtI (n := 400) ((eK_twice x1 x2 x3 M).trans h) ?_
  intro t als st M hk; cases hk
def dK_twice {β : Type} : Den β := fun as M k => match as with
  | [.inr (.inr (.inl (al0, bl0, cl0))), .inl x1, .inl x2, .inl x3] => if al0 = 40 ∧ bl0 = 0 ∧ cl0 = 0 then (mK_twice x1 x2 x3 M).bind fun q => k (aI q.1) q.2 else none
  | _ => none
theorem wK_twice {E : EV} (hsd : E.2.2.2 = 1) (l : Launch) (x1 : Int32) (x2 : Int32) (x3 : Int32) (M : Mem) (q : (Int32 × Mem)) (hq : mK_twice x1 x2 x3 M = some q) : Con E l 4 yK_twice prog_13_method_83_code 4 (some .int) [aR (40, 0, 0), aI x1, aI x2, aI x3] M (outI q).1 (outI q).2 := by
  refine con_of iK_twice (Nat.le_of_ble_eq_true rfl) ?_
  intro p e s m args below meth c C
  exact lK_twice (oK_twice hsd l) C x1 x2 x3 M _ hq
theorem kK_twice {E : EV} (hsd : E.2.2.2 = 1) (l : Launch) {β : Type} : DenOK E l 4 yK_twice prog_13_method_83_code 4 (some .int) true (dK_twice (β := β)) := by
  intro as M k res h
  unfold dK_twice at h
  split at h
  ·
    split at h
    · rename_i hc
      obtain ⟨rfl, rfl, rfl⟩ := hc
      obtain ⟨q, hq, hk⟩ := Option.bind_eq_some_iff.mp h
      exact ⟨aI q.1, q.2, hk, rfl, wK_twice hsd l _ _ _ M q hq⟩
    · cases h
  · cases h
theorem qK_twice {β : Type} : RecOK 40 (dK_twice (β := β)) := by
  intro as M k res h
  unfold dK_twice at h
  split at h
  ·
    split at h
    · rename_i hc
      obtain ⟨rfl, rfl, rfl⟩ := hc
      exact ⟨_, _, _, rfl⟩
    · cases h
  · cases h
/-! ===== FreeLancesModel.shown(I)I ===== -/
abbrev yK_shown : MethodName := ⟨"FreeLancesModel", "shown", "(I)I"⟩
theorem iK_shown : MI yK_shown prog_13_method_84_code 6 (some .int) 1 := ⟨tw1650, tw108, ⟨by decide, by decide⟩, by decide +kernel, by decide, by decide⟩
def cK_shown : List (Ent (Int32 × Mem)) := [(false, 0, 1, sLdI 1),
  (false, 1, 3, sIfGe 10),
  (false, 4, 1, sLdA 0),
  (false, 5, 1, sC 1),
  (false, 6, 3, sInv 2 true dK_finds),
  (false, 9, 1, sRetI),
  (false, 10, 1, sLdI 1),
  (false, 11, 1, sStI 2),
  (false, 12, 1, sC 0),
  (false, 13, 1, sStI 3),
  (true, 14, 1, sLdI 3),
  (false, 15, 2, sC 100),
  (false, 17, 3, sCmpGe 87),
  (false, 20, 1, sC 0),
  (false, 21, 2, sStI 4),
  (false, 23, 1, sC 0),
  (false, 24, 2, sStI 5),
  (true, 26, 2, sLdI 5),
  (false, 28, 1, sLdA 0),
  (false, 29, 3, sGet 40 (fun w i M => aR (41, 0, 0))),
  (false, 32, 1, sC 2),
  (false, 33, 1, sIald 41 1502),
  (false, 34, 3, sCmpGe 63),
  (false, 37, 2, sLdI 4),
  (false, 39, 1, sLdA 0),
  (false, 40, 2, sLdI 5),
  (false, 42, 1, sLdI 3),
  (false, 43, 3, sInv 3 true dK_isShown),
  (false, 46, 3, sIfEq 53),
  (false, 49, 1, sC 1),
  (false, 50, 3, sGoto 54),
  (false, 53, 1, sC 0),
  (false, 54, 1, sBin (fun x y => x + y)),
  (false, 55, 2, sStI 4),
  (false, 57, 3, sInc 5 1),
  (false, 60, 3, sGoto 26),
  (false, 63, 2, sLdI 4),
  (false, 65, 1, sC 2),
  (false, 66, 3, sCmpGe 72),
  (false, 69, 3, sGoto 81),
  (false, 72, 1, sLdI 2),
  (false, 73, 3, sIfNe 78),
  (false, 76, 1, sLdI 3),
  (false, 77, 1, sRetI),
  (false, 78, 3, sInc 2 (-1)),
  (false, 81, 3, sInc 3 1),
  (false, 84, 3, sGoto 14),
  (false, 87, 1, sLdA 0),
  (false, 88, 1, sC 2),
  (false, 89, 3, sInv 2 true dK_finds),
  (false, 92, 1, sRetI)]
theorem oK_shown {E : EV} (hsd : E.2.2.2 = 1) (l : Launch) : AllOK E l 3 "FreeLancesModel" prog_13_method_84_code 6 (some .int) outI (cK_shown) := by
  refine ak (ok_iload_n (k := 1) rfl (by decide +kernel)) ?_
  refine ak (ok_if_ge (off := 9) (by decide) (by decide +kernel)) ?_
  refine ak (ok_aload_n (k := 0) rfl (by decide +kernel)) ?_
  refine ak (ok_iconst (n := 1) (by decide) (by decide +kernel)) ?_
  refine ak (ok_invV (r := 40) (kK_finds hsd l) qK_finds ck11 kd40 iK_finds tw1334 tw37 (by decide) tw1332 (by decide +kernel)) ?_
  refine ak (ok_ireturn rfl (by decide +kernel)) ?_
  refine ak (ok_iload_n (k := 1) rfl (by decide +kernel)) ?_
  refine ak (ok_istore_n (k := 2) rfl (by decide) (by decide +kernel)) ?_
  refine ak (ok_iconst (n := 0) (by decide) (by decide +kernel)) ?_
  refine ak (ok_istore_n (k := 3) rfl (by decide) (by decide +kernel)) ?_
  refine ak (ok_iload_n (k := 3) rfl (by decide +kernel)) ?_
  refine ak (ok_bipush (n := 100) (by decide) (by decide +kernel)) ?_
  refine ak (ok_icmp_ge (off := 70) (by decide) (by decide +kernel)) ?_
  refine ak (ok_iconst (n := 0) (by decide) (by decide +kernel)) ?_
  refine ak (ok_istore (by decide) (by decide +kernel)) ?_
  refine ak (ok_iconst (n := 0) (by decide) (by decide +kernel)) ?_
  refine ak (ok_istore (by decide) (by decide +kernel)) ?_
  refine ak (ok_iload (by decide +kernel)) ?_
  refine ak (ok_aload_n (k := 0) rfl (by decide +kernel)) ?_
  refine ak (ok_get (k := 0) ck11 kd40 (by decide) (fun _ _ _ => rfl) (vf_40_0 hsd) tw1242 (by decide +kernel)) ?_
  refine ak (ok_iconst (n := 2) (by decide) (by decide +kernel)) ?_
  refine ak (ok_iald kd41 (by decide) (by decide +kernel)) ?_
  refine ak (ok_icmp_ge (off := 29) (by decide) (by decide +kernel)) ?_
  refine ak (ok_iload (by decide +kernel)) ?_
  refine ak (ok_aload_n (k := 0) rfl (by decide +kernel)) ?_
  refine ak (ok_iload (by decide +kernel)) ?_
  refine ak (ok_iload_n (k := 3) rfl (by decide +kernel)) ?_
  refine ak (ok_invV (r := 40) (kK_isShown hsd l) qK_isShown ck11 kd40 iK_isShown tw1645 tw76 (by decide) tw1643 (by decide +kernel)) ?_
  refine ak (ok_if_eq (off := 7) (by decide) (by decide +kernel)) ?_
  refine ak (ok_iconst (n := 1) (by decide) (by decide +kernel)) ?_
  refine ak (ok_goto (off := 4) (by decide) (by decide +kernel)) ?_
  refine ak (ok_iconst (n := 0) (by decide) (by decide +kernel)) ?_
  refine ak (ok_iadd (by decide +kernel)) ?_
  refine ak (ok_istore (by decide) (by decide +kernel)) ?_
  refine ak (ok_iinc (n := 1) (by decide) (by decide) (by decide +kernel)) ?_
  refine ak (ok_goto (off := (-34)) (by decide) (by decide +kernel)) ?_
  refine ak (ok_iload (by decide +kernel)) ?_
  refine ak (ok_iconst (n := 2) (by decide) (by decide +kernel)) ?_
  refine ak (ok_icmp_ge (off := 6) (by decide) (by decide +kernel)) ?_
  refine ak (ok_goto (off := 12) (by decide) (by decide +kernel)) ?_
  refine ak (ok_iload_n (k := 2) rfl (by decide +kernel)) ?_
  refine ak (ok_if_ne (off := 5) (by decide) (by decide +kernel)) ?_
  refine ak (ok_iload_n (k := 3) rfl (by decide +kernel)) ?_
  refine ak (ok_ireturn rfl (by decide +kernel)) ?_
  refine ak (ok_iinc (n := (-1)) (by decide) (by decide) (by decide +kernel)) ?_
  refine ak (ok_iinc (n := 1) (by decide) (by decide) (by decide +kernel)) ?_
  refine ak (ok_goto (off := (-70)) (by decide) (by decide +kernel)) ?_
  refine ak (ok_aload_n (k := 0) rfl (by decide +kernel)) ?_
  refine ak (ok_iconst (n := 2) (by decide) (by decide +kernel)) ?_
  refine ak (ok_invV (r := 40) (kK_finds hsd l) qK_finds ck11 kd40 iK_finds tw1334 tw37 (by decide) tw1332 (by decide +kernel)) ?_
  refine ak (ok_ireturn rfl (by decide +kernel)) ?_
  exact trivial
def KK_shown_26 (j14 : Int32 → Int32 → Mem → Option (Int32 × Mem)) (j26 : Int32 → Int32 → Int32 → Int32 → Mem → Option (Int32 × Mem)) : Jm (Int32 × Mem) := fun t als st M =>
  if t = 14 then (match als, st with
  | [.inr (.inr (.inl (al0, bl0, cl0))), _, .inl x2, .inl x3, _, _], [] => if al0 = 40 ∧ bl0 = 0 ∧ cl0 = 0 then j14 x2 x3 M else none
  | _, _ => none) else
  if t = 26 then (match als, st with
  | [.inr (.inr (.inl (al0, bl0, cl0))), _, .inl x2, .inl x3, .inl x4, .inl x5], [] => if al0 = 40 ∧ bl0 = 0 ∧ cl0 = 0 then j26 x2 x3 x4 x5 M else none
  | _, _ => none) else
  none
set_option maxRecDepth 1000000 in
theorem eK_shown_26 (j14 : Int32 → Int32 → Mem → Option (Int32 × Mem)) (j26 : Int32 → Int32 → Int32 → Int32 → Mem → Option (Int32 × Mem)) (x2 : Int32) (x3 : Int32) (x4 : Int32) (x5 : Int32) (M : Mem) (u1 : AV) : run (cK_shown) (KK_shown_26 j14 j26) rtI 400 (seek (cK_shown) 26) [aR (40, 0, 0), u1, aI x2, aI x3, aI x4, aI x5] [] M = mK_shown_26b j14 j26 x2 x3 x4 x5 M := id rfl
theorem lK_shown_26 {E : EV} {l : Launch} {p : Program} {e : Env} {s : State} {m : MethodId} {args : Array Value} {below : List Frame} {meth : Method} {c : Code} (A : AllOK E l 3 "FreeLancesModel" prog_13_method_84_code 6 (some .int) outI (cK_shown)) (C : Cx E p s m args meth c "FreeLancesModel" prog_13_method_84_code 6 (some .int)) {r14 : Int32 → Int32 → Mem → Option (Int32 × Mem)} (H14 : ∀ (x2 : Int32) (x3 : Int32) (M : Mem) (res : (Int32 × Mem)), r14 x2 x3 M = some res → ∀ (u1 u4 u5 : AV), Wm E p l e 3 s m args below meth c 6 14 [aR (40, 0, 0), u1, aI x2, aI x3, u4, u5] [] M (outI res).1 (outI res).2) : ∀ (n : Nat), ∀ (x2 : Int32) (x3 : Int32) (x4 : Int32) (x5 : Int32) (M : Mem) (res : (Int32 × Mem)), mK_shown_26 r14 n x2 x3 x4 x5 M = some res → ∀ (u1 : AV), Wm E p l e 3 s m args below meth c 6 26 [aR (40, 0, 0), u1, aI x2, aI x3, aI x4, aI x5] [] M (outI res).1 (outI res).2 := by
  intro n
  induction n with
  | zero => intro _ _ _ _ M res h; cases h
  | succ n ih =>
    intro x2 x3 x4 x5 M res h u1
    refine run_at C A rfl hrtI (n := 400) ((eK_shown_26 r14 (mK_shown_26 r14 n) x2 x3 x4 x5 M u1).trans h) ?_
    intro t als st M hk
    unfold KK_shown_26 at hk
    split at hk
    · rename_i ht
      subst ht
      split at hk
      · split at hk
        · rename_i hc
          obtain ⟨rfl, rfl, rfl⟩ := hc
          exact H14 _ _ _ _ hk _ _ _
        · cases hk
      · cases hk
    split at hk
    · rename_i ht
      subst ht
      split at hk
      · split at hk
        · rename_i hc
          obtain ⟨rfl, rfl, rfl⟩ := hc
          exact ih _ _ _ _ _ _ hk _
        · cases hk
      · cases hk
    cases hk
def KK_shown_14 (j26 : Int32 → Int32 → Int32 → Int32 → Mem → Option (Int32 × Mem)) : Jm (Int32 × Mem) := fun t als st M =>
  if t = 26 then (match als, st with
  | [.inr (.inr (.inl (al0, bl0, cl0))), _, .inl x2, .inl x3, .inl x4, .inl x5], [] => if al0 = 40 ∧ bl0 = 0 ∧ cl0 = 0 then j26 x2 x3 x4 x5 M else none
  | _, _ => none) else
  none
set_option maxRecDepth 1000000 in
theorem eK_shown_14 (j26 : Int32 → Int32 → Int32 → Int32 → Mem → Option (Int32 × Mem)) (x2 : Int32) (x3 : Int32) (M : Mem) (u1 u4 u5 : AV) : run (cK_shown) (KK_shown_14 j26) rtI 400 (seek (cK_shown) 14) [aR (40, 0, 0), u1, aI x2, aI x3, u4, u5] [] M = mK_shown_14b j26 x2 x3 M := id rfl
theorem lK_shown_14 {E : EV} {l : Launch} {p : Program} {e : Env} {s : State} {m : MethodId} {args : Array Value} {below : List Frame} {meth : Method} {c : Code} (A : AllOK E l 3 "FreeLancesModel" prog_13_method_84_code 6 (some .int) outI (cK_shown)) (C : Cx E p s m args meth c "FreeLancesModel" prog_13_method_84_code 6 (some .int)) : ∀ (n : Nat), ∀ (x2 : Int32) (x3 : Int32) (M : Mem) (res : (Int32 × Mem)), mK_shown_14 n x2 x3 M = some res → ∀ (u1 u4 u5 : AV), Wm E p l e 3 s m args below meth c 6 14 [aR (40, 0, 0), u1, aI x2, aI x3, u4, u5] [] M (outI res).1 (outI res).2 := by
  intro n
  induction n with
  | zero => intro _ _ M res h; cases h
  | succ n ih =>
    intro x2 x3 M res h u1 u4 u5
    refine run_at C A rfl hrtI (n := 400) ((eK_shown_14 (mK_shown_26 (mK_shown_14 n) fuel) x2 x3 M u1 u4 u5).trans h) ?_
    intro t als st M hk
    unfold KK_shown_14 at hk
    split at hk
    · rename_i ht
      subst ht
      split at hk
      · split at hk
        · rename_i hc
          obtain ⟨rfl, rfl, rfl⟩ := hc
          exact lK_shown_26 A C ih _ _ _ _ _ _ _ hk _
        · cases hk
      · cases hk
    cases hk
def KK_shown (j14 : Int32 → Int32 → Mem → Option (Int32 × Mem)) : Jm (Int32 × Mem) := fun t als st M =>
  if t = 14 then (match als, st with
  | [.inr (.inr (.inl (al0, bl0, cl0))), _, .inl x2, .inl x3, _, _], [] => if al0 = 40 ∧ bl0 = 0 ∧ cl0 = 0 then j14 x2 x3 M else none
  | _, _ => none) else
  none
set_option maxRecDepth 1000000 in
theorem eK_shown (j14 : Int32 → Int32 → Mem → Option (Int32 × Mem)) (x1 : Int32) (M : Mem) : run (cK_shown) (KK_shown j14) rtI 400 (seek (cK_shown) 0) [aR (40, 0, 0), aI x1, aU, aU, aU, aU] [] M = mK_shownb j14 x1 M := id rfl
theorem lK_shown {E : EV} {l : Launch} {p : Program} {e : Env} {s : State} {m : MethodId} {args : Array Value} {below : List Frame} {meth : Method} {c : Code} (A : AllOK E l 3 "FreeLancesModel" prog_13_method_84_code 6 (some .int) outI (cK_shown)) (C : Cx E p s m args meth c "FreeLancesModel" prog_13_method_84_code 6 (some .int)) : ∀ (x1 : Int32) (M : Mem) (res : (Int32 × Mem)), mK_shown x1 M = some res → Wm E p l e 3 s m args below meth c 6 0 [aR (40, 0, 0), aI x1, aU, aU, aU, aU] [] M (outI res).1 (outI res).2 := by
  intro x1 M res h
  refine run_at C A rfl hrtI (n := 400) ((eK_shown (mK_shown_14 fuel) x1 M).trans h) ?_
  intro t als st M hk
  unfold KK_shown at hk
  split at hk
  · rename_i ht
    subst ht
    split at hk
    · split at hk
      · rename_i hc
        obtain ⟨rfl, rfl, rfl⟩ := hc
        exact lK_shown_14 A C _ _ _ _ _ hk _ _ _
      · cases hk
    · cases hk
  cases hk
def dK_shown {β : Type} : Den β := fun as M k => match as with
  | [.inr (.inr (.inl (al0, bl0, cl0))), .inl x1] => if al0 = 40 ∧ bl0 = 0 ∧ cl0 = 0 then (mK_shown x1 M).bind fun q => k (aI q.1) q.2 else none
  | _ => none
theorem wK_shown {E : EV} (hsd : E.2.2.2 = 1) (l : Launch) (x1 : Int32) (M : Mem) (q : (Int32 × Mem)) (hq : mK_shown x1 M = some q) : Con E l 3 yK_shown prog_13_method_84_code 6 (some .int) [aR (40, 0, 0), aI x1] M (outI q).1 (outI q).2 := by
  refine con_of iK_shown (Nat.le_of_ble_eq_true rfl) ?_
  intro p e s m args below meth c C
  exact lK_shown (oK_shown hsd l) C x1 M _ hq
theorem kK_shown {E : EV} (hsd : E.2.2.2 = 1) (l : Launch) {β : Type} : DenOK E l 3 yK_shown prog_13_method_84_code 6 (some .int) true (dK_shown (β := β)) := by
  intro as M k res h
  unfold dK_shown at h
  split at h
  ·
    split at h
    · rename_i hc
      obtain ⟨rfl, rfl, rfl⟩ := hc
      obtain ⟨q, hq, hk⟩ := Option.bind_eq_some_iff.mp h
      exact ⟨aI q.1, q.2, hk, rfl, wK_shown hsd l _ M q hq⟩
    · cases h
  · cases h
theorem qK_shown {β : Type} : RecOK 40 (dK_shown (β := β)) := by
  intro as M k res h
  unfold dK_shown at h
  split at h
  ·
    split at h
    · rename_i hc
      obtain ⟨rfl, rfl, rfl⟩ := hc
      exact ⟨_, _, _, rfl⟩
    · cases h
  · cases h
/-! ===== FreeLancesModel.hold(IIIZ)I ===== -/
abbrev yK_hold : MethodName := ⟨"FreeLancesModel", "hold", "(IIIZ)I"⟩
theorem iK_hold : MI yK_hold prog_13_method_85_code 8 (some .int) 4 := ⟨tw1654, tw108, ⟨by decide, by decide⟩, by decide +kernel, by decide, by decide⟩
def cK_hold : List (Ent (Int32 × Mem)) := [(false, 0, 1, sLdA 0),
  (false, 1, 1, sLdI 1),
  (false, 2, 3, sInv 2 true dK_isTown),
  (false, 5, 3, sIfEq 26),
  (false, 8, 1, sLdA 0),
  (false, 9, 1, sLdI 2),
  (false, 10, 3, sInv 2 true dK_isCompany),
  (false, 13, 3, sIfEq 26),
  (false, 16, 1, sLdI 3),
  (false, 17, 1, sC 0),
  (false, 18, 2, sC 99),
  (false, 20, 3, sInv 3 true dK_in),
  (false, 23, 3, sIfNe 32),
  (false, 26, 1, sLdA 0),
  (false, 27, 1, sC 1),
  (false, 28, 3, sInv 2 true dK_finds),
  (false, 31, 1, sRetI),
  (false, 32, 1, sLdA 0),
  (false, 33, 1, sLdI 1),
  (false, 34, 1, sC 2),
  (false, 35, 3, sInv 3 true dK_ofTown),
  (false, 38, 2, sStI 5),
  (false, 40, 1, sLdI 3),
  (false, 41, 2, sLdI 4),
  (false, 43, 3, sIfEq 55),
  (false, 46, 1, sLdA 0),
  (false, 47, 1, sLdI 2),
  (false, 48, 1, sC 0),
  (false, 49, 3, sInv 3 true dK_manySo),
  (false, 52, 3, sGoto 56),
  (false, 55, 1, sC 0),
  (false, 56, 1, sBin (fun x y => x + y)),
  (false, 57, 2, sStI 6),
  (false, 59, 1, sC 1),
  (false, 60, 2, sStI 7),
  (true, 62, 2, sLdI 7),
  (false, 64, 3, sC 400),
  (false, 67, 3, sCmpGt 129),
  (false, 70, 2, sLdI 5),
  (false, 72, 2, sLdI 6),
  (false, 74, 1, sBin (fun x y => x - y)),
  (false, 75, 2, sStI 5),
  (false, 77, 2, sLdI 5),
  (false, 79, 1, sLdA 0),
  (false, 80, 1, sLdI 1),
  (false, 81, 1, sC 3),
  (false, 82, 3, sInv 3 true dK_ofTown),
  (false, 85, 2, sC 10),
  (false, 87, 1, sBin0 (fun x y => x / y)),
  (false, 88, 1, sBin (fun x y => x + y)),
  (false, 89, 2, sStI 5),
  (false, 91, 2, sLdI 5),
  (false, 93, 1, sLdA 0),
  (false, 94, 1, sLdI 1),
  (false, 95, 1, sC 2),
  (false, 96, 3, sInv 3 true dK_ofTown),
  (false, 99, 3, sCmpLe 111),
  (false, 102, 1, sLdA 0),
  (false, 103, 1, sLdI 1),
  (false, 104, 1, sC 2),
  (false, 105, 3, sInv 3 true dK_ofTown),
  (false, 108, 3, sGoto 113),
  (false, 111, 2, sLdI 5),
  (false, 113, 2, sStI 5),
  (false, 115, 2, sLdI 5),
  (false, 117, 3, sIfGt 123),
  (false, 120, 2, sLdI 7),
  (false, 122, 1, sRetI),
  (false, 123, 3, sInc 7 1),
  (false, 126, 3, sGoto 62),
  (false, 129, 1, sLdA 0),
  (false, 130, 1, sC 2),
  (false, 131, 3, sInv 2 true dK_finds),
  (false, 134, 1, sRetI)]
theorem oK_hold {E : EV} (hsd : E.2.2.2 = 1) (l : Launch) : AllOK E l 3 "FreeLancesModel" prog_13_method_85_code 8 (some .int) outI (cK_hold) := by
  refine ak (ok_aload_n (k := 0) rfl (by decide +kernel)) ?_
  refine ak (ok_iload_n (k := 1) rfl (by decide +kernel)) ?_
  refine ak (ok_invV (r := 40) (kK_isTown hsd l) qK_isTown ck11 kd40 iK_isTown tw1343 tw38 (by decide) tw1341 (by decide +kernel)) ?_
  refine ak (ok_if_eq (off := 21) (by decide) (by decide +kernel)) ?_
  refine ak (ok_aload_n (k := 0) rfl (by decide +kernel)) ?_
  refine ak (ok_iload_n (k := 2) rfl (by decide +kernel)) ?_
  refine ak (ok_invV (r := 40) (kK_isCompany hsd l) qK_isCompany ck11 kd40 iK_isCompany tw1392 tw44 (by decide) tw1390 (by decide +kernel)) ?_
  refine ak (ok_if_eq (off := 13) (by decide) (by decide +kernel)) ?_
  refine ak (ok_iload_n (k := 3) rfl (by decide +kernel)) ?_
  refine ak (ok_iconst (n := 0) (by decide) (by decide +kernel)) ?_
  refine ak (ok_bipush (n := 99) (by decide) (by decide +kernel)) ?_
  refine ak (ok_invS (kK_in hsd l) iK_in tw1330 (by decide) tw1329 (by decide +kernel)) ?_
  refine ak (ok_if_ne (off := 9) (by decide) (by decide +kernel)) ?_
  refine ak (ok_aload_n (k := 0) rfl (by decide +kernel)) ?_
  refine ak (ok_iconst (n := 1) (by decide) (by decide +kernel)) ?_
  refine ak (ok_invV (r := 40) (kK_finds hsd l) qK_finds ck11 kd40 iK_finds tw1334 tw37 (by decide) tw1332 (by decide +kernel)) ?_
  refine ak (ok_ireturn rfl (by decide +kernel)) ?_
  refine ak (ok_aload_n (k := 0) rfl (by decide +kernel)) ?_
  refine ak (ok_iload_n (k := 1) rfl (by decide +kernel)) ?_
  refine ak (ok_iconst (n := 2) (by decide) (by decide +kernel)) ?_
  refine ak (ok_invV (r := 40) (kK_ofTown hsd l) qK_ofTown ck11 kd40 iK_ofTown tw1359 tw40 (by decide) tw1357 (by decide +kernel)) ?_
  refine ak (ok_istore (by decide) (by decide +kernel)) ?_
  refine ak (ok_iload_n (k := 3) rfl (by decide +kernel)) ?_
  refine ak (ok_iload (by decide +kernel)) ?_
  refine ak (ok_if_eq (off := 12) (by decide) (by decide +kernel)) ?_
  refine ak (ok_aload_n (k := 0) rfl (by decide +kernel)) ?_
  refine ak (ok_iload_n (k := 2) rfl (by decide +kernel)) ?_
  refine ak (ok_iconst (n := 0) (by decide) (by decide +kernel)) ?_
  refine ak (ok_invV (r := 40) (kK_manySo hsd l) qK_manySo ck11 kd40 iK_manySo tw1404 tw45 (by decide) tw1402 (by decide +kernel)) ?_
  refine ak (ok_goto (off := 4) (by decide) (by decide +kernel)) ?_
  refine ak (ok_iconst (n := 0) (by decide) (by decide +kernel)) ?_
  refine ak (ok_iadd (by decide +kernel)) ?_
  refine ak (ok_istore (by decide) (by decide +kernel)) ?_
  refine ak (ok_iconst (n := 1) (by decide) (by decide +kernel)) ?_
  refine ak (ok_istore (by decide) (by decide +kernel)) ?_
  refine ak (ok_iload (by decide +kernel)) ?_
  refine ak (ok_sipush (n := 400) (by decide) (by decide +kernel)) ?_
  refine ak (ok_icmp_gt (off := 62) (by decide) (by decide +kernel)) ?_
  refine ak (ok_iload (by decide +kernel)) ?_
  refine ak (ok_iload (by decide +kernel)) ?_
  refine ak (ok_isub (by decide +kernel)) ?_
  refine ak (ok_istore (by decide) (by decide +kernel)) ?_
  refine ak (ok_iload (by decide +kernel)) ?_
  refine ak (ok_aload_n (k := 0) rfl (by decide +kernel)) ?_
  refine ak (ok_iload_n (k := 1) rfl (by decide +kernel)) ?_
  refine ak (ok_iconst (n := 3) (by decide) (by decide +kernel)) ?_
  refine ak (ok_invV (r := 40) (kK_ofTown hsd l) qK_ofTown ck11 kd40 iK_ofTown tw1359 tw40 (by decide) tw1357 (by decide +kernel)) ?_
  refine ak (ok_bipush (n := 10) (by decide) (by decide +kernel)) ?_
  refine ak (ok_idiv (by decide +kernel)) ?_
  refine ak (ok_iadd (by decide +kernel)) ?_
  refine ak (ok_istore (by decide) (by decide +kernel)) ?_
  refine ak (ok_iload (by decide +kernel)) ?_
  refine ak (ok_aload_n (k := 0) rfl (by decide +kernel)) ?_
  refine ak (ok_iload_n (k := 1) rfl (by decide +kernel)) ?_
  refine ak (ok_iconst (n := 2) (by decide) (by decide +kernel)) ?_
  refine ak (ok_invV (r := 40) (kK_ofTown hsd l) qK_ofTown ck11 kd40 iK_ofTown tw1359 tw40 (by decide) tw1357 (by decide +kernel)) ?_
  refine ak (ok_icmp_le (off := 12) (by decide) (by decide +kernel)) ?_
  refine ak (ok_aload_n (k := 0) rfl (by decide +kernel)) ?_
  refine ak (ok_iload_n (k := 1) rfl (by decide +kernel)) ?_
  refine ak (ok_iconst (n := 2) (by decide) (by decide +kernel)) ?_
  refine ak (ok_invV (r := 40) (kK_ofTown hsd l) qK_ofTown ck11 kd40 iK_ofTown tw1359 tw40 (by decide) tw1357 (by decide +kernel)) ?_
  refine ak (ok_goto (off := 5) (by decide) (by decide +kernel)) ?_
  refine ak (ok_iload (by decide +kernel)) ?_
  refine ak (ok_istore (by decide) (by decide +kernel)) ?_
  refine ak (ok_iload (by decide +kernel)) ?_
  refine ak (ok_if_gt (off := 6) (by decide) (by decide +kernel)) ?_
  refine ak (ok_iload (by decide +kernel)) ?_
  refine ak (ok_ireturn rfl (by decide +kernel)) ?_
  refine ak (ok_iinc (n := 1) (by decide) (by decide) (by decide +kernel)) ?_
  refine ak (ok_goto (off := (-64)) (by decide) (by decide +kernel)) ?_
  refine ak (ok_aload_n (k := 0) rfl (by decide +kernel)) ?_
  refine ak (ok_iconst (n := 2) (by decide) (by decide +kernel)) ?_
  refine ak (ok_invV (r := 40) (kK_finds hsd l) qK_finds ck11 kd40 iK_finds tw1334 tw37 (by decide) tw1332 (by decide +kernel)) ?_
  refine ak (ok_ireturn rfl (by decide +kernel)) ?_
  exact trivial
def KK_hold_62 (j62 : Int32 → Int32 → Int32 → Int32 → Mem → Option (Int32 × Mem)) : Jm (Int32 × Mem) := fun t als st M =>
  if t = 62 then (match als, st with
  | [.inr (.inr (.inl (al0, bl0, cl0))), .inl x1, _, _, _, .inl x5, .inl x6, .inl x7], [] => if al0 = 40 ∧ bl0 = 0 ∧ cl0 = 0 then j62 x1 x5 x6 x7 M else none
  | _, _ => none) else
  none
set_option maxRecDepth 1000000 in
theorem eK_hold_62 (j62 : Int32 → Int32 → Int32 → Int32 → Mem → Option (Int32 × Mem)) (x1 : Int32) (x5 : Int32) (x6 : Int32) (x7 : Int32) (M : Mem) (u2 u3 u4 : AV) : run (cK_hold) (KK_hold_62 j62) rtI 400 (seek (cK_hold) 62) [aR (40, 0, 0), aI x1, u2, u3, u4, aI x5, aI x6, aI x7] [] M = mK_hold_62b j62 x1 x5 x6 x7 M := id rfl
theorem lK_hold_62 {E : EV} {l : Launch} {p : Program} {e : Env} {s : State} {m : MethodId} {args : Array Value} {below : List Frame} {meth : Method} {c : Code} (A : AllOK E l 3 "FreeLancesModel" prog_13_method_85_code 8 (some .int) outI (cK_hold)) (C : Cx E p s m args meth c "FreeLancesModel" prog_13_method_85_code 8 (some .int)) : ∀ (n : Nat), ∀ (x1 : Int32) (x5 : Int32) (x6 : Int32) (x7 : Int32) (M : Mem) (res : (Int32 × Mem)), mK_hold_62 n x1 x5 x6 x7 M = some res → ∀ (u2 u3 u4 : AV), Wm E p l e 3 s m args below meth c 8 62 [aR (40, 0, 0), aI x1, u2, u3, u4, aI x5, aI x6, aI x7] [] M (outI res).1 (outI res).2 := by
  intro n
  induction n with
  | zero => intro _ _ _ _ M res h; cases h
  | succ n ih =>
    intro x1 x5 x6 x7 M res h u2 u3 u4
    refine run_at C A rfl hrtI (n := 400) ((eK_hold_62 (mK_hold_62 n) x1 x5 x6 x7 M u2 u3 u4).trans h) ?_
    intro t als st M hk
    unfold KK_hold_62 at hk
    split at hk
    · rename_i ht
      subst ht
      split at hk
      · split at hk
        · rename_i hc
          obtain ⟨rfl, rfl, rfl⟩ := hc
          exact ih _ _ _ _ _ _ hk _ _ _
        · cases hk
      · cases hk
    cases hk
def KK_hold (j62 : Int32 → Int32 → Int32 → Int32 → Mem → Option (Int32 × Mem)) : Jm (Int32 × Mem) := fun t als st M =>
  if t = 62 then (match als, st with
  | [.inr (.inr (.inl (al0, bl0, cl0))), .inl x1, _, _, _, .inl x5, .inl x6, .inl x7], [] => if al0 = 40 ∧ bl0 = 0 ∧ cl0 = 0 then j62 x1 x5 x6 x7 M else none
  | _, _ => none) else
  none
set_option maxRecDepth 1000000 in
theorem eK_hold (j62 : Int32 → Int32 → Int32 → Int32 → Mem → Option (Int32 × Mem)) (x1 : Int32) (x2 : Int32) (x3 : Int32) (x4 : Int32) (M : Mem) : run (cK_hold) (KK_hold j62) rtI 400 (seek (cK_hold) 0) [aR (40, 0, 0), aI x1, aI x2, aI x3, aI x4, aU, aU, aU] [] M = mK_holdb j62 x1 x2 x3 x4 M := id rfl
theorem lK_hold {E : EV} {l : Launch} {p : Program} {e : Env} {s : State} {m : MethodId} {args : Array Value} {below : List Frame} {meth : Method} {c : Code} (A : AllOK E l 3 "FreeLancesModel" prog_13_method_85_code 8 (some .int) outI (cK_hold)) (C : Cx E p s m args meth c "FreeLancesModel" prog_13_method_85_code 8 (some .int)) : ∀ (x1 : Int32) (x2 : Int32) (x3 : Int32) (x4 : Int32) (M : Mem) (res : (Int32 × Mem)), mK_hold x1 x2 x3 x4 M = some res → Wm E p l e 3 s m args below meth c 8 0 [aR (40, 0, 0), aI x1, aI x2, aI x3, aI x4, aU, aU, aU] [] M (outI res).1 (outI res).2 := by
  intro x1 x2 x3 x4 M res h
  refine run_at C A rfl hrtI (n := 400) ((eK_hold (mK_hold_62 fuel) x1 x2 x3 x4 M).trans h) ?_
  intro t als st M hk
  unfold KK_hold at hk
  split at hk
  · rename_i ht
    subst ht
    split at hk
    · split at hk
      · rename_i hc
        obtain ⟨rfl, rfl, rfl⟩ := hc
        exact lK_hold_62 A C _ _ _ _ _ _ _ hk _ _ _
      · cases hk
    · cases hk
  cases hk
def dK_hold {β : Type} : Den β := fun as M k => match as with
  | [.inr (.inr (.inl (al0, bl0, cl0))), .inl x1, .inl x2, .inl x3, .inl x4] => if al0 = 40 ∧ bl0 = 0 ∧ cl0 = 0 then (mK_hold x1 x2 x3 x4 M).bind fun q => k (aI q.1) q.2 else none
  | _ => none
theorem wK_hold {E : EV} (hsd : E.2.2.2 = 1) (l : Launch) (x1 : Int32) (x2 : Int32) (x3 : Int32) (x4 : Int32) (M : Mem) (q : (Int32 × Mem)) (hq : mK_hold x1 x2 x3 x4 M = some q) : Con E l 3 yK_hold prog_13_method_85_code 8 (some .int) [aR (40, 0, 0), aI x1, aI x2, aI x3, aI x4] M (outI q).1 (outI q).2 := by
  refine con_of iK_hold (Nat.le_of_ble_eq_true rfl) ?_
  intro p e s m args below meth c C
  exact lK_hold (oK_hold hsd l) C x1 x2 x3 x4 M _ hq
theorem kK_hold {E : EV} (hsd : E.2.2.2 = 1) (l : Launch) {β : Type} : DenOK E l 3 yK_hold prog_13_method_85_code 8 (some .int) true (dK_hold (β := β)) := by
  intro as M k res h
  unfold dK_hold at h
  split at h
  ·
    split at h
    · rename_i hc
      obtain ⟨rfl, rfl, rfl⟩ := hc
      obtain ⟨q, hq, hk⟩ := Option.bind_eq_some_iff.mp h
      exact ⟨aI q.1, q.2, hk, rfl, wK_hold hsd l _ _ _ _ M q hq⟩
    · cases h
  · cases h
theorem qK_hold {β : Type} : RecOK 40 (dK_hold (β := β)) := by
  intro as M k res h
  unfold dK_hold at h
  split at h
  ·
    split at h
    · rename_i hc
      obtain ⟨rfl, rfl, rfl⟩ := hc
      exact ⟨_, _, _, rfl⟩
    · cases h
  · cases h
