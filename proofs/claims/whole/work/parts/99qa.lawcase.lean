/-! ===== the law, case by case ===== -/
def cL_0 (L : Nat) (xs : Nat → Int32) : List (Nat × StL) := [(264, lA 264 0),
  (265, lA 265 99),
  (266, lI 266),
  (267, lC 267 1 1),
  (268, lBin 268 (fun x y => x + y)),
  (269, lAt 269 L xs),
  (270, lA 270 99),
  (271, lI 271),
  (272, lC 272 1 2),
  (273, lBin 273 (fun x y => x + y)),
  (274, lAt 274 L xs),
  (275, lCallF 275 3 dF_town),
  (278, lA 278 40),
  (279, lA 279 99),
  (280, lI 280),
  (281, lC 281 1 1),
  (282, lBin 282 (fun x y => x + y)),
  (283, lAt 283 L xs),
  (284, lA 284 99),
  (285, lI 285),
  (286, lC 286 1 2),
  (287, lBin 287 (fun x y => x + y)),
  (288, lAt 288 L xs),
  (289, lCallK 289 3 dK_town),
  (292, lSame 2238)]
theorem oL_0 (L : Nat) (xs : Nat → Int32) (l : Launch) : AllL L xs l (cL_0 L xs) := by
  refine akL (kl_aload (k0 := 1) (.inr (.inl ⟨rfl, rfl⟩)) (by decide +kernel)) ?_
  refine akL (kl_aload (k0 := 0) (.inl ⟨rfl, rfl⟩) (by decide +kernel)) ?_
  refine akL (kl_iload (k0 := 3) rfl (by decide +kernel)) ?_
  refine akL (kl_const (ins := .iconst 1) (by decide +kernel) (.inl ⟨1, rfl, rfl, by decide⟩)) ?_
  refine akL (kl_iadd (by decide +kernel)) ?_
  refine akL (kl_at (by decide +kernel)) ?_
  refine akL (kl_aload (k0 := 0) (.inl ⟨rfl, rfl⟩) (by decide +kernel)) ?_
  refine akL (kl_iload (k0 := 3) rfl (by decide +kernel)) ?_
  refine akL (kl_const (ins := .iconst 2) (by decide +kernel) (.inl ⟨2, rfl, rfl, by decide⟩)) ?_
  refine akL (kl_iadd (by decide +kernel)) ?_
  refine akL (kl_at (by decide +kernel)) ?_
  refine akL (kl_callF (fun E' h => kF_town h l) qF_town ck10 kd0 iF_town qiF_town qsF_town (by decide) qlF_town (by decide +kernel)) ?_
  refine akL (kl_aload (k0 := 2) (.inr (.inr ⟨rfl, rfl⟩)) (by decide +kernel)) ?_
  refine akL (kl_aload (k0 := 0) (.inl ⟨rfl, rfl⟩) (by decide +kernel)) ?_
  refine akL (kl_iload (k0 := 3) rfl (by decide +kernel)) ?_
  refine akL (kl_const (ins := .iconst 1) (by decide +kernel) (.inl ⟨1, rfl, rfl, by decide⟩)) ?_
  refine akL (kl_iadd (by decide +kernel)) ?_
  refine akL (kl_at (by decide +kernel)) ?_
  refine akL (kl_aload (k0 := 0) (.inl ⟨rfl, rfl⟩) (by decide +kernel)) ?_
  refine akL (kl_iload (k0 := 3) rfl (by decide +kernel)) ?_
  refine akL (kl_const (ins := .iconst 2) (by decide +kernel) (.inl ⟨2, rfl, rfl, by decide⟩)) ?_
  refine akL (kl_iadd (by decide +kernel)) ?_
  refine akL (kl_at (by decide +kernel)) ?_
  refine akL (kl_callK (fun E' h => kK_town h l) qK_town ck11 kd40 iK_town qiK_town qsK_town (by decide) qlK_town (by decide +kernel)) ?_
  refine akL (kl_same (off := 1946) (by decide) (by decide +kernel)) ?_
  exact trivial
set_option maxRecDepth 1000000 in
theorem eL_0 (L : Nat) (xs : Nat → Int32) (K : SL → Option Unit) (i : Int32) (M N : Mem) : runL (cL_0 L xs) K 100 264 (i, [], M, N) = ixx (i + 1) L fun j1 => ixx (i + 2) L fun j2 => (mF_town (xs j1) (xs j2) M).bind fun q3 => ixx (i + 1) L fun j4 => ixx (i + 2) L fun j5 => (mK_town (xs j4) (xs j5) N).bind fun q6 => if q3.1 = q6.1 then K (i, [], q3.2, q6.2) else none := id rfl
theorem gL_0 {L p B : Nat} {xs : Nat → Int32} {M N : Mem} {K : SL → Option Unit} (hL : L ≤ 384) (hp : p + 6 ≤ L) (hB : B < 10000) (h : Rel B M N) (hK : ∀ M' N', Rel (B + 1) M' N' → K (nI p, [], M', N') = some ()) : runL (cL_0 L xs) K 100 264 (nI p, [], M, N) = some () := by
  rw [eL_0]
  have i1 : ∀ F : Nat → Option Unit, ixx (nI p + 1) L F = F (p + 1) := fun F => ixL hL hp (c := 1) (by decide) F
  have i2 : ∀ F : Nat → Option Unit, ixx (nI p + 2) L F = F (p + 2) := fun F => ixL hL hp (c := 2) (by decide) F
  simp only [i1, i2]
  obtain ⟨r, M1, N1, e1, e2, h1⟩ := s_town h (xs (p + 1)) (xs (p + 2))
  rw [e1]
  simp only [Option.bind_some]
  rw [e2]
  simp only [Option.bind_some, if_true]
  exact hK M1 N1 h1
def cL_1 (L : Nat) (xs : Nat → Int32) : List (Nat × StL) := [(297, lA 297 0),
  (298, lA 298 99),
  (299, lI 299),
  (300, lC 300 1 1),
  (301, lBin 301 (fun x y => x + y)),
  (302, lAt 302 L xs),
  (303, lA 303 99),
  (304, lI 304),
  (305, lC 305 1 2),
  (306, lBin 306 (fun x y => x + y)),
  (307, lAt 307 L xs),
  (308, lA 308 99),
  (309, lI 309),
  (310, lC 310 1 3),
  (311, lBin 311 (fun x y => x + y)),
  (312, lAt 312 L xs),
  (313, lCallF 313 4 dF_road),
  (316, lA 316 40),
  (317, lA 317 99),
  (318, lI 318),
  (319, lC 319 1 1),
  (320, lBin 320 (fun x y => x + y)),
  (321, lAt 321 L xs),
  (322, lA 322 99),
  (323, lI 323),
  (324, lC 324 1 2),
  (325, lBin 325 (fun x y => x + y)),
  (326, lAt 326 L xs),
  (327, lA 327 99),
  (328, lI 328),
  (329, lC 329 1 3),
  (330, lBin 330 (fun x y => x + y)),
  (331, lAt 331 L xs),
  (332, lCallK 332 4 dK_road),
  (335, lSame 2238)]
theorem oL_1 (L : Nat) (xs : Nat → Int32) (l : Launch) : AllL L xs l (cL_1 L xs) := by
  refine akL (kl_aload (k0 := 1) (.inr (.inl ⟨rfl, rfl⟩)) (by decide +kernel)) ?_
  refine akL (kl_aload (k0 := 0) (.inl ⟨rfl, rfl⟩) (by decide +kernel)) ?_
  refine akL (kl_iload (k0 := 3) rfl (by decide +kernel)) ?_
  refine akL (kl_const (ins := .iconst 1) (by decide +kernel) (.inl ⟨1, rfl, rfl, by decide⟩)) ?_
  refine akL (kl_iadd (by decide +kernel)) ?_
  refine akL (kl_at (by decide +kernel)) ?_
  refine akL (kl_aload (k0 := 0) (.inl ⟨rfl, rfl⟩) (by decide +kernel)) ?_
  refine akL (kl_iload (k0 := 3) rfl (by decide +kernel)) ?_
  refine akL (kl_const (ins := .iconst 2) (by decide +kernel) (.inl ⟨2, rfl, rfl, by decide⟩)) ?_
  refine akL (kl_iadd (by decide +kernel)) ?_
  refine akL (kl_at (by decide +kernel)) ?_
  refine akL (kl_aload (k0 := 0) (.inl ⟨rfl, rfl⟩) (by decide +kernel)) ?_
  refine akL (kl_iload (k0 := 3) rfl (by decide +kernel)) ?_
  refine akL (kl_const (ins := .iconst 3) (by decide +kernel) (.inl ⟨3, rfl, rfl, by decide⟩)) ?_
  refine akL (kl_iadd (by decide +kernel)) ?_
  refine akL (kl_at (by decide +kernel)) ?_
  refine akL (kl_callF (fun E' h => kF_road h l) qF_road ck10 kd0 iF_road qiF_road qsF_road (by decide) qlF_road (by decide +kernel)) ?_
  refine akL (kl_aload (k0 := 2) (.inr (.inr ⟨rfl, rfl⟩)) (by decide +kernel)) ?_
  refine akL (kl_aload (k0 := 0) (.inl ⟨rfl, rfl⟩) (by decide +kernel)) ?_
  refine akL (kl_iload (k0 := 3) rfl (by decide +kernel)) ?_
  refine akL (kl_const (ins := .iconst 1) (by decide +kernel) (.inl ⟨1, rfl, rfl, by decide⟩)) ?_
  refine akL (kl_iadd (by decide +kernel)) ?_
  refine akL (kl_at (by decide +kernel)) ?_
  refine akL (kl_aload (k0 := 0) (.inl ⟨rfl, rfl⟩) (by decide +kernel)) ?_
  refine akL (kl_iload (k0 := 3) rfl (by decide +kernel)) ?_
  refine akL (kl_const (ins := .iconst 2) (by decide +kernel) (.inl ⟨2, rfl, rfl, by decide⟩)) ?_
  refine akL (kl_iadd (by decide +kernel)) ?_
  refine akL (kl_at (by decide +kernel)) ?_
  refine akL (kl_aload (k0 := 0) (.inl ⟨rfl, rfl⟩) (by decide +kernel)) ?_
  refine akL (kl_iload (k0 := 3) rfl (by decide +kernel)) ?_
  refine akL (kl_const (ins := .iconst 3) (by decide +kernel) (.inl ⟨3, rfl, rfl, by decide⟩)) ?_
  refine akL (kl_iadd (by decide +kernel)) ?_
  refine akL (kl_at (by decide +kernel)) ?_
  refine akL (kl_callK (fun E' h => kK_road h l) qK_road ck11 kd40 iK_road qiK_road qsK_road (by decide) qlK_road (by decide +kernel)) ?_
  refine akL (kl_same (off := 1903) (by decide) (by decide +kernel)) ?_
  exact trivial
set_option maxRecDepth 1000000 in
theorem eL_1 (L : Nat) (xs : Nat → Int32) (K : SL → Option Unit) (i : Int32) (M N : Mem) : runL (cL_1 L xs) K 100 297 (i, [], M, N) = ixx (i + 1) L fun j1 => ixx (i + 2) L fun j2 => ixx (i + 3) L fun j3 => (mF_road (xs j1) (xs j2) (xs j3) M).bind fun q4 => ixx (i + 1) L fun j5 => ixx (i + 2) L fun j6 => ixx (i + 3) L fun j7 => (mK_road (xs j5) (xs j6) (xs j7) N).bind fun q8 => if q4.1 = q8.1 then K (i, [], q4.2, q8.2) else none := id rfl
theorem gL_1 {L p B : Nat} {xs : Nat → Int32} {M N : Mem} {K : SL → Option Unit} (hL : L ≤ 384) (hp : p + 6 ≤ L) (hB : B < 10000) (h : Rel B M N) (hK : ∀ M' N', Rel (B + 1) M' N' → K (nI p, [], M', N') = some ()) : runL (cL_1 L xs) K 100 297 (nI p, [], M, N) = some () := by
  rw [eL_1]
  have i1 : ∀ F : Nat → Option Unit, ixx (nI p + 1) L F = F (p + 1) := fun F => ixL hL hp (c := 1) (by decide) F
  have i2 : ∀ F : Nat → Option Unit, ixx (nI p + 2) L F = F (p + 2) := fun F => ixL hL hp (c := 2) (by decide) F
  have i3 : ∀ F : Nat → Option Unit, ixx (nI p + 3) L F = F (p + 3) := fun F => ixL hL hp (c := 3) (by decide) F
  simp only [i1, i2, i3]
  obtain ⟨r, M1, N1, e1, e2, h1⟩ := s_road h (xs (p + 1)) (xs (p + 2)) (xs (p + 3))
  rw [e1]
  simp only [Option.bind_some]
  rw [e2]
  simp only [Option.bind_some, if_true]
  exact hK M1 N1 h1
def cL_2 (L : Nat) (xs : Nat → Int32) : List (Nat × StL) := [(340, lA 340 0),
  (341, lA 341 99),
  (342, lI 342),
  (343, lC 343 1 1),
  (344, lBin 344 (fun x y => x + y)),
  (345, lAt 345 L xs),
  (346, lA 346 99),
  (347, lI 347),
  (348, lC 348 1 2),
  (349, lBin 349 (fun x y => x + y)),
  (350, lAt 350 L xs),
  (351, lCallF 351 3 dF_far),
  (354, lA 354 40),
  (355, lA 355 99),
  (356, lI 356),
  (357, lC 357 1 1),
  (358, lBin 358 (fun x y => x + y)),
  (359, lAt 359 L xs),
  (360, lA 360 99),
  (361, lI 361),
  (362, lC 362 1 2),
  (363, lBin 363 (fun x y => x + y)),
  (364, lAt 364 L xs),
  (365, lCallK 365 3 dK_far),
  (368, lSame 2238)]
theorem oL_2 (L : Nat) (xs : Nat → Int32) (l : Launch) : AllL L xs l (cL_2 L xs) := by
  refine akL (kl_aload (k0 := 1) (.inr (.inl ⟨rfl, rfl⟩)) (by decide +kernel)) ?_
  refine akL (kl_aload (k0 := 0) (.inl ⟨rfl, rfl⟩) (by decide +kernel)) ?_
  refine akL (kl_iload (k0 := 3) rfl (by decide +kernel)) ?_
  refine akL (kl_const (ins := .iconst 1) (by decide +kernel) (.inl ⟨1, rfl, rfl, by decide⟩)) ?_
  refine akL (kl_iadd (by decide +kernel)) ?_
  refine akL (kl_at (by decide +kernel)) ?_
  refine akL (kl_aload (k0 := 0) (.inl ⟨rfl, rfl⟩) (by decide +kernel)) ?_
  refine akL (kl_iload (k0 := 3) rfl (by decide +kernel)) ?_
  refine akL (kl_const (ins := .iconst 2) (by decide +kernel) (.inl ⟨2, rfl, rfl, by decide⟩)) ?_
  refine akL (kl_iadd (by decide +kernel)) ?_
  refine akL (kl_at (by decide +kernel)) ?_
  refine akL (kl_callF (fun E' h => kF_far h l) qF_far ck10 kd0 iF_far qiF_far qsF_far (by decide) qlF_far (by decide +kernel)) ?_
  refine akL (kl_aload (k0 := 2) (.inr (.inr ⟨rfl, rfl⟩)) (by decide +kernel)) ?_
  refine akL (kl_aload (k0 := 0) (.inl ⟨rfl, rfl⟩) (by decide +kernel)) ?_
  refine akL (kl_iload (k0 := 3) rfl (by decide +kernel)) ?_
  refine akL (kl_const (ins := .iconst 1) (by decide +kernel) (.inl ⟨1, rfl, rfl, by decide⟩)) ?_
  refine akL (kl_iadd (by decide +kernel)) ?_
  refine akL (kl_at (by decide +kernel)) ?_
  refine akL (kl_aload (k0 := 0) (.inl ⟨rfl, rfl⟩) (by decide +kernel)) ?_
  refine akL (kl_iload (k0 := 3) rfl (by decide +kernel)) ?_
  refine akL (kl_const (ins := .iconst 2) (by decide +kernel) (.inl ⟨2, rfl, rfl, by decide⟩)) ?_
  refine akL (kl_iadd (by decide +kernel)) ?_
  refine akL (kl_at (by decide +kernel)) ?_
  refine akL (kl_callK (fun E' h => kK_far h l) qK_far ck11 kd40 iK_far qiK_far qsK_far (by decide) qlK_far (by decide +kernel)) ?_
  refine akL (kl_same (off := 1870) (by decide) (by decide +kernel)) ?_
  exact trivial
set_option maxRecDepth 1000000 in
theorem eL_2 (L : Nat) (xs : Nat → Int32) (K : SL → Option Unit) (i : Int32) (M N : Mem) : runL (cL_2 L xs) K 100 340 (i, [], M, N) = ixx (i + 1) L fun j1 => ixx (i + 2) L fun j2 => (mF_far (xs j1) (xs j2) M).bind fun q3 => ixx (i + 1) L fun j4 => ixx (i + 2) L fun j5 => (mK_far (xs j4) (xs j5) N).bind fun q6 => if q3.1 = q6.1 then K (i, [], q3.2, q6.2) else none := id rfl
theorem gL_2 {L p B : Nat} {xs : Nat → Int32} {M N : Mem} {K : SL → Option Unit} (hL : L ≤ 384) (hp : p + 6 ≤ L) (hB : B < 10000) (h : Rel B M N) (hK : ∀ M' N', Rel (B + 1) M' N' → K (nI p, [], M', N') = some ()) : runL (cL_2 L xs) K 100 340 (nI p, [], M, N) = some () := by
  rw [eL_2]
  have i1 : ∀ F : Nat → Option Unit, ixx (nI p + 1) L F = F (p + 1) := fun F => ixL hL hp (c := 1) (by decide) F
  have i2 : ∀ F : Nat → Option Unit, ixx (nI p + 2) L F = F (p + 2) := fun F => ixL hL hp (c := 2) (by decide) F
  simp only [i1, i2]
  obtain ⟨r, M1, N1, e1, e2, h1⟩ := s_far h (xs (p + 1)) (xs (p + 2))
  rw [e1]
  simp only [Option.bind_some]
  rw [e2]
  simp only [Option.bind_some, if_true]
  exact hK M1 N1 h1
def cL_3 (L : Nat) (xs : Nat → Int32) : List (Nat × StL) := [(373, lA 373 0),
  (374, lA 374 99),
  (375, lI 375),
  (376, lC 376 1 1),
  (377, lBin 377 (fun x y => x + y)),
  (378, lAt 378 L xs),
  (379, lA 379 99),
  (380, lI 380),
  (381, lC 381 1 2),
  (382, lBin 382 (fun x y => x + y)),
  (383, lAt 383 L xs),
  (384, lCallF 384 3 dF_townIs),
  (387, lA 387 40),
  (388, lA 388 99),
  (389, lI 389),
  (390, lC 390 1 1),
  (391, lBin 391 (fun x y => x + y)),
  (392, lAt 392 L xs),
  (393, lA 393 99),
  (394, lI 394),
  (395, lC 395 1 2),
  (396, lBin 396 (fun x y => x + y)),
  (397, lAt 397 L xs),
  (398, lCallK 398 3 dK_townIs),
  (401, lSame 2238)]
theorem oL_3 (L : Nat) (xs : Nat → Int32) (l : Launch) : AllL L xs l (cL_3 L xs) := by
  refine akL (kl_aload (k0 := 1) (.inr (.inl ⟨rfl, rfl⟩)) (by decide +kernel)) ?_
  refine akL (kl_aload (k0 := 0) (.inl ⟨rfl, rfl⟩) (by decide +kernel)) ?_
  refine akL (kl_iload (k0 := 3) rfl (by decide +kernel)) ?_
  refine akL (kl_const (ins := .iconst 1) (by decide +kernel) (.inl ⟨1, rfl, rfl, by decide⟩)) ?_
  refine akL (kl_iadd (by decide +kernel)) ?_
  refine akL (kl_at (by decide +kernel)) ?_
  refine akL (kl_aload (k0 := 0) (.inl ⟨rfl, rfl⟩) (by decide +kernel)) ?_
  refine akL (kl_iload (k0 := 3) rfl (by decide +kernel)) ?_
  refine akL (kl_const (ins := .iconst 2) (by decide +kernel) (.inl ⟨2, rfl, rfl, by decide⟩)) ?_
  refine akL (kl_iadd (by decide +kernel)) ?_
  refine akL (kl_at (by decide +kernel)) ?_
  refine akL (kl_callF (fun E' h => kF_townIs h l) qF_townIs ck10 kd0 iF_townIs qiF_townIs qsF_townIs (by decide) qlF_townIs (by decide +kernel)) ?_
  refine akL (kl_aload (k0 := 2) (.inr (.inr ⟨rfl, rfl⟩)) (by decide +kernel)) ?_
  refine akL (kl_aload (k0 := 0) (.inl ⟨rfl, rfl⟩) (by decide +kernel)) ?_
  refine akL (kl_iload (k0 := 3) rfl (by decide +kernel)) ?_
  refine akL (kl_const (ins := .iconst 1) (by decide +kernel) (.inl ⟨1, rfl, rfl, by decide⟩)) ?_
  refine akL (kl_iadd (by decide +kernel)) ?_
  refine akL (kl_at (by decide +kernel)) ?_
  refine akL (kl_aload (k0 := 0) (.inl ⟨rfl, rfl⟩) (by decide +kernel)) ?_
  refine akL (kl_iload (k0 := 3) rfl (by decide +kernel)) ?_
  refine akL (kl_const (ins := .iconst 2) (by decide +kernel) (.inl ⟨2, rfl, rfl, by decide⟩)) ?_
  refine akL (kl_iadd (by decide +kernel)) ?_
  refine akL (kl_at (by decide +kernel)) ?_
  refine akL (kl_callK (fun E' h => kK_townIs h l) qK_townIs ck11 kd40 iK_townIs qiK_townIs qsK_townIs (by decide) qlK_townIs (by decide +kernel)) ?_
  refine akL (kl_same (off := 1837) (by decide) (by decide +kernel)) ?_
  exact trivial
set_option maxRecDepth 1000000 in
theorem eL_3 (L : Nat) (xs : Nat → Int32) (K : SL → Option Unit) (i : Int32) (M N : Mem) : runL (cL_3 L xs) K 100 373 (i, [], M, N) = ixx (i + 1) L fun j1 => ixx (i + 2) L fun j2 => (mF_townIs (xs j1) (xs j2) M).bind fun q3 => ixx (i + 1) L fun j4 => ixx (i + 2) L fun j5 => (mK_townIs (xs j4) (xs j5) N).bind fun q6 => if q3.1 = q6.1 then K (i, [], q3.2, q6.2) else none := id rfl
theorem gL_3 {L p B : Nat} {xs : Nat → Int32} {M N : Mem} {K : SL → Option Unit} (hL : L ≤ 384) (hp : p + 6 ≤ L) (hB : B < 10000) (h : Rel B M N) (hK : ∀ M' N', Rel (B + 1) M' N' → K (nI p, [], M', N') = some ()) : runL (cL_3 L xs) K 100 373 (nI p, [], M, N) = some () := by
  rw [eL_3]
  have i1 : ∀ F : Nat → Option Unit, ixx (nI p + 1) L F = F (p + 1) := fun F => ixL hL hp (c := 1) (by decide) F
  have i2 : ∀ F : Nat → Option Unit, ixx (nI p + 2) L F = F (p + 2) := fun F => ixL hL hp (c := 2) (by decide) F
  simp only [i1, i2]
  obtain ⟨r, M1, N1, e1, e2, h1⟩ := s_townIs h (xs (p + 1)) (xs (p + 2))
  rw [e1]
  simp only [Option.bind_some]
  rw [e2]
  simp only [Option.bind_some, if_true]
  exact hK M1 N1 h1
def cL_4 (L : Nat) (xs : Nat → Int32) : List (Nat × StL) := [(406, lA 406 0),
  (407, lA 407 99),
  (408, lI 408),
  (409, lC 409 1 1),
  (410, lBin 410 (fun x y => x + y)),
  (411, lAt 411 L xs),
  (412, lA 412 99),
  (413, lI 413),
  (414, lC 414 1 2),
  (415, lBin 415 (fun x y => x + y)),
  (416, lAt 416 L xs),
  (417, lA 417 99),
  (418, lI 418),
  (419, lC 419 1 3),
  (420, lBin 420 (fun x y => x + y)),
  (421, lAt 421 L xs),
  (422, lCallF 422 4 dF_wall),
  (425, lA 425 40),
  (426, lA 426 99),
  (427, lI 427),
  (428, lC 428 1 1),
  (429, lBin 429 (fun x y => x + y)),
  (430, lAt 430 L xs),
  (431, lA 431 99),
  (432, lI 432),
  (433, lC 433 1 2),
  (434, lBin 434 (fun x y => x + y)),
  (435, lAt 435 L xs),
  (436, lA 436 99),
  (437, lI 437),
  (438, lC 438 1 3),
  (439, lBin 439 (fun x y => x + y)),
  (440, lAt 440 L xs),
  (441, lCallK 441 4 dK_wall),
  (444, lSame 2238)]
theorem oL_4 (L : Nat) (xs : Nat → Int32) (l : Launch) : AllL L xs l (cL_4 L xs) := by
  refine akL (kl_aload (k0 := 1) (.inr (.inl ⟨rfl, rfl⟩)) (by decide +kernel)) ?_
  refine akL (kl_aload (k0 := 0) (.inl ⟨rfl, rfl⟩) (by decide +kernel)) ?_
  refine akL (kl_iload (k0 := 3) rfl (by decide +kernel)) ?_
  refine akL (kl_const (ins := .iconst 1) (by decide +kernel) (.inl ⟨1, rfl, rfl, by decide⟩)) ?_
  refine akL (kl_iadd (by decide +kernel)) ?_
  refine akL (kl_at (by decide +kernel)) ?_
  refine akL (kl_aload (k0 := 0) (.inl ⟨rfl, rfl⟩) (by decide +kernel)) ?_
  refine akL (kl_iload (k0 := 3) rfl (by decide +kernel)) ?_
  refine akL (kl_const (ins := .iconst 2) (by decide +kernel) (.inl ⟨2, rfl, rfl, by decide⟩)) ?_
  refine akL (kl_iadd (by decide +kernel)) ?_
  refine akL (kl_at (by decide +kernel)) ?_
  refine akL (kl_aload (k0 := 0) (.inl ⟨rfl, rfl⟩) (by decide +kernel)) ?_
  refine akL (kl_iload (k0 := 3) rfl (by decide +kernel)) ?_
  refine akL (kl_const (ins := .iconst 3) (by decide +kernel) (.inl ⟨3, rfl, rfl, by decide⟩)) ?_
  refine akL (kl_iadd (by decide +kernel)) ?_
  refine akL (kl_at (by decide +kernel)) ?_
  refine akL (kl_callF (fun E' h => kF_wall h l) qF_wall ck10 kd0 iF_wall qiF_wall qsF_wall (by decide) qlF_wall (by decide +kernel)) ?_
  refine akL (kl_aload (k0 := 2) (.inr (.inr ⟨rfl, rfl⟩)) (by decide +kernel)) ?_
  refine akL (kl_aload (k0 := 0) (.inl ⟨rfl, rfl⟩) (by decide +kernel)) ?_
  refine akL (kl_iload (k0 := 3) rfl (by decide +kernel)) ?_
  refine akL (kl_const (ins := .iconst 1) (by decide +kernel) (.inl ⟨1, rfl, rfl, by decide⟩)) ?_
  refine akL (kl_iadd (by decide +kernel)) ?_
  refine akL (kl_at (by decide +kernel)) ?_
  refine akL (kl_aload (k0 := 0) (.inl ⟨rfl, rfl⟩) (by decide +kernel)) ?_
  refine akL (kl_iload (k0 := 3) rfl (by decide +kernel)) ?_
  refine akL (kl_const (ins := .iconst 2) (by decide +kernel) (.inl ⟨2, rfl, rfl, by decide⟩)) ?_
  refine akL (kl_iadd (by decide +kernel)) ?_
  refine akL (kl_at (by decide +kernel)) ?_
  refine akL (kl_aload (k0 := 0) (.inl ⟨rfl, rfl⟩) (by decide +kernel)) ?_
  refine akL (kl_iload (k0 := 3) rfl (by decide +kernel)) ?_
  refine akL (kl_const (ins := .iconst 3) (by decide +kernel) (.inl ⟨3, rfl, rfl, by decide⟩)) ?_
  refine akL (kl_iadd (by decide +kernel)) ?_
  refine akL (kl_at (by decide +kernel)) ?_
  refine akL (kl_callK (fun E' h => kK_wall h l) qK_wall ck11 kd40 iK_wall qiK_wall qsK_wall (by decide) qlK_wall (by decide +kernel)) ?_
  refine akL (kl_same (off := 1794) (by decide) (by decide +kernel)) ?_
  exact trivial
set_option maxRecDepth 1000000 in
theorem eL_4 (L : Nat) (xs : Nat → Int32) (K : SL → Option Unit) (i : Int32) (M N : Mem) : runL (cL_4 L xs) K 100 406 (i, [], M, N) = ixx (i + 1) L fun j1 => ixx (i + 2) L fun j2 => ixx (i + 3) L fun j3 => (mF_wall (xs j1) (xs j2) (xs j3) M).bind fun q4 => ixx (i + 1) L fun j5 => ixx (i + 2) L fun j6 => ixx (i + 3) L fun j7 => (mK_wall (xs j5) (xs j6) (xs j7) N).bind fun q8 => if q4.1 = q8.1 then K (i, [], q4.2, q8.2) else none := id rfl
theorem gL_4 {L p B : Nat} {xs : Nat → Int32} {M N : Mem} {K : SL → Option Unit} (hL : L ≤ 384) (hp : p + 6 ≤ L) (hB : B < 10000) (h : Rel B M N) (hK : ∀ M' N', Rel (B + 1) M' N' → K (nI p, [], M', N') = some ()) : runL (cL_4 L xs) K 100 406 (nI p, [], M, N) = some () := by
  rw [eL_4]
  have i1 : ∀ F : Nat → Option Unit, ixx (nI p + 1) L F = F (p + 1) := fun F => ixL hL hp (c := 1) (by decide) F
  have i2 : ∀ F : Nat → Option Unit, ixx (nI p + 2) L F = F (p + 2) := fun F => ixL hL hp (c := 2) (by decide) F
  have i3 : ∀ F : Nat → Option Unit, ixx (nI p + 3) L F = F (p + 3) := fun F => ixL hL hp (c := 3) (by decide) F
  simp only [i1, i2, i3]
  obtain ⟨r, M1, N1, e1, e2, h1⟩ := s_wall h (xs (p + 1)) (xs (p + 2)) (xs (p + 3))
  rw [e1]
  simp only [Option.bind_some]
  rw [e2]
  simp only [Option.bind_some, if_true]
  exact hK M1 N1 h1
def cL_5 (L : Nat) (xs : Nat → Int32) : List (Nat × StL) := [(449, lA 449 0),
  (450, lA 450 99),
  (451, lI 451),
  (452, lC 452 1 1),
  (453, lBin 453 (fun x y => x + y)),
  (454, lAt 454 L xs),
  (455, lA 455 99),
  (456, lI 456),
  (457, lC 457 1 2),
  (458, lBin 458 (fun x y => x + y)),
  (459, lAt 459 L xs),
  (460, lCallF 460 3 dF_harvest),
  (463, lA 463 40),
  (464, lA 464 99),
  (465, lI 465),
  (466, lC 466 1 1),
  (467, lBin 467 (fun x y => x + y)),
  (468, lAt 468 L xs),
  (469, lA 469 99),
  (470, lI 470),
  (471, lC 471 1 2),
  (472, lBin 472 (fun x y => x + y)),
  (473, lAt 473 L xs),
  (474, lCallK 474 3 dK_harvest),
  (477, lSame 2238)]
theorem oL_5 (L : Nat) (xs : Nat → Int32) (l : Launch) : AllL L xs l (cL_5 L xs) := by
  refine akL (kl_aload (k0 := 1) (.inr (.inl ⟨rfl, rfl⟩)) (by decide +kernel)) ?_
  refine akL (kl_aload (k0 := 0) (.inl ⟨rfl, rfl⟩) (by decide +kernel)) ?_
  refine akL (kl_iload (k0 := 3) rfl (by decide +kernel)) ?_
  refine akL (kl_const (ins := .iconst 1) (by decide +kernel) (.inl ⟨1, rfl, rfl, by decide⟩)) ?_
  refine akL (kl_iadd (by decide +kernel)) ?_
  refine akL (kl_at (by decide +kernel)) ?_
  refine akL (kl_aload (k0 := 0) (.inl ⟨rfl, rfl⟩) (by decide +kernel)) ?_
  refine akL (kl_iload (k0 := 3) rfl (by decide +kernel)) ?_
  refine akL (kl_const (ins := .iconst 2) (by decide +kernel) (.inl ⟨2, rfl, rfl, by decide⟩)) ?_
  refine akL (kl_iadd (by decide +kernel)) ?_
  refine akL (kl_at (by decide +kernel)) ?_
  refine akL (kl_callF (fun E' h => kF_harvest h l) qF_harvest ck10 kd0 iF_harvest qiF_harvest qsF_harvest (by decide) qlF_harvest (by decide +kernel)) ?_
  refine akL (kl_aload (k0 := 2) (.inr (.inr ⟨rfl, rfl⟩)) (by decide +kernel)) ?_
  refine akL (kl_aload (k0 := 0) (.inl ⟨rfl, rfl⟩) (by decide +kernel)) ?_
  refine akL (kl_iload (k0 := 3) rfl (by decide +kernel)) ?_
  refine akL (kl_const (ins := .iconst 1) (by decide +kernel) (.inl ⟨1, rfl, rfl, by decide⟩)) ?_
  refine akL (kl_iadd (by decide +kernel)) ?_
  refine akL (kl_at (by decide +kernel)) ?_
  refine akL (kl_aload (k0 := 0) (.inl ⟨rfl, rfl⟩) (by decide +kernel)) ?_
  refine akL (kl_iload (k0 := 3) rfl (by decide +kernel)) ?_
  refine akL (kl_const (ins := .iconst 2) (by decide +kernel) (.inl ⟨2, rfl, rfl, by decide⟩)) ?_
  refine akL (kl_iadd (by decide +kernel)) ?_
  refine akL (kl_at (by decide +kernel)) ?_
  refine akL (kl_callK (fun E' h => kK_harvest h l) qK_harvest ck11 kd40 iK_harvest qiK_harvest qsK_harvest (by decide) qlK_harvest (by decide +kernel)) ?_
  refine akL (kl_same (off := 1761) (by decide) (by decide +kernel)) ?_
  exact trivial
set_option maxRecDepth 1000000 in
theorem eL_5 (L : Nat) (xs : Nat → Int32) (K : SL → Option Unit) (i : Int32) (M N : Mem) : runL (cL_5 L xs) K 100 449 (i, [], M, N) = ixx (i + 1) L fun j1 => ixx (i + 2) L fun j2 => (mF_harvest (xs j1) (xs j2) M).bind fun q3 => ixx (i + 1) L fun j4 => ixx (i + 2) L fun j5 => (mK_harvest (xs j4) (xs j5) N).bind fun q6 => if q3.1 = q6.1 then K (i, [], q3.2, q6.2) else none := id rfl
theorem gL_5 {L p B : Nat} {xs : Nat → Int32} {M N : Mem} {K : SL → Option Unit} (hL : L ≤ 384) (hp : p + 6 ≤ L) (hB : B < 10000) (h : Rel B M N) (hK : ∀ M' N', Rel (B + 1) M' N' → K (nI p, [], M', N') = some ()) : runL (cL_5 L xs) K 100 449 (nI p, [], M, N) = some () := by
  rw [eL_5]
  have i1 : ∀ F : Nat → Option Unit, ixx (nI p + 1) L F = F (p + 1) := fun F => ixL hL hp (c := 1) (by decide) F
  have i2 : ∀ F : Nat → Option Unit, ixx (nI p + 2) L F = F (p + 2) := fun F => ixL hL hp (c := 2) (by decide) F
  simp only [i1, i2]
  obtain ⟨r, M1, N1, e1, e2, h1⟩ := s_harvest h (xs (p + 1)) (xs (p + 2))
  rw [e1]
  simp only [Option.bind_some]
  rw [e2]
  simp only [Option.bind_some, if_true]
  exact hK M1 N1 h1
