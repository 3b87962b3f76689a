/-! ===== the law, case by case ===== -/
def cL_6 (L : Nat) (xs : Nat → Int32) : List (Nat × StL) := [(482, lA 482 0),
  (483, lA 483 99),
  (484, lI 484),
  (485, lC 485 1 1),
  (486, lBin 486 (fun x y => x + y)),
  (487, lAt 487 L xs),
  (488, lA 488 99),
  (489, lI 489),
  (490, lC 490 1 2),
  (491, lBin 491 (fun x y => x + y)),
  (492, lAt 492 L xs),
  (493, lA 493 99),
  (494, lI 494),
  (495, lC 495 1 3),
  (496, lBin 496 (fun x y => x + y)),
  (497, lAt 497 L xs),
  (498, lCallF 498 4 dF_company),
  (501, lA 501 40),
  (502, lA 502 99),
  (503, lI 503),
  (504, lC 504 1 1),
  (505, lBin 505 (fun x y => x + y)),
  (506, lAt 506 L xs),
  (507, lA 507 99),
  (508, lI 508),
  (509, lC 509 1 2),
  (510, lBin 510 (fun x y => x + y)),
  (511, lAt 511 L xs),
  (512, lA 512 99),
  (513, lI 513),
  (514, lC 514 1 3),
  (515, lBin 515 (fun x y => x + y)),
  (516, lAt 516 L xs),
  (517, lCallK 517 4 dK_company),
  (520, lSame 2238)]
theorem oL_6 (L : Nat) (xs : Nat → Int32) (l : Launch) : AllL L xs l (cL_6 L xs) := by
  refine akL (kl_aload (k0 := 1) (.inr (.inl ⟨rfl, rfl⟩)) (by decide +kernel)) ?_
  refine akL (kl_aload (k0 := 0) (.inl ⟨rfl, rfl⟩) (by decide +kernel)) ?_
  refine akL (kl_iload (k0 := 3) rfl (by decide +kernel)) ?_
  refine akL (kl_const (ins := .iconst 1) (by decide +kernel) (.inl ⟨1, rfl, rfl, by decide⟩)) ?_
  refine akL (kl_iadd (by decide +kernel)) ?_
  refine akL (kl_at (by decide +kernel)) ?_
  refine akL (kl_aload (k0 := 0) (.inl ⟨rfl, rfl⟩) (by decide +kernel)) ?_
  refine akL (kl_iload (k0 := 3) rfl (by decide +kernel)) ?_
  refine akL (kl_const (ins := .iconst 2) (by decide +kernel) (.inl ⟨2, rfl, rfl, by decide⟩)) ?_
  refine akL (kl_iadd (by decide +kernel)) ?_
  refine akL (kl_at (by decide +kernel)) ?_
  refine akL (kl_aload (k0 := 0) (.inl ⟨rfl, rfl⟩) (by decide +kernel)) ?_
  refine akL (kl_iload (k0 := 3) rfl (by decide +kernel)) ?_
  refine akL (kl_const (ins := .iconst 3) (by decide +kernel) (.inl ⟨3, rfl, rfl, by decide⟩)) ?_
  refine akL (kl_iadd (by decide +kernel)) ?_
  refine akL (kl_at (by decide +kernel)) ?_
  refine akL (kl_callF (fun E' h => kF_company h l) qF_company ck10 kd0 iF_company qiF_company qsF_company (by decide) qlF_company (by decide +kernel)) ?_
  refine akL (kl_aload (k0 := 2) (.inr (.inr ⟨rfl, rfl⟩)) (by decide +kernel)) ?_
  refine akL (kl_aload (k0 := 0) (.inl ⟨rfl, rfl⟩) (by decide +kernel)) ?_
  refine akL (kl_iload (k0 := 3) rfl (by decide +kernel)) ?_
  refine akL (kl_const (ins := .iconst 1) (by decide +kernel) (.inl ⟨1, rfl, rfl, by decide⟩)) ?_
  refine akL (kl_iadd (by decide +kernel)) ?_
  refine akL (kl_at (by decide +kernel)) ?_
  refine akL (kl_aload (k0 := 0) (.inl ⟨rfl, rfl⟩) (by decide +kernel)) ?_
  refine akL (kl_iload (k0 := 3) rfl (by decide +kernel)) ?_
  refine akL (kl_const (ins := .iconst 2) (by decide +kernel) (.inl ⟨2, rfl, rfl, by decide⟩)) ?_
  refine akL (kl_iadd (by decide +kernel)) ?_
  refine akL (kl_at (by decide +kernel)) ?_
  refine akL (kl_aload (k0 := 0) (.inl ⟨rfl, rfl⟩) (by decide +kernel)) ?_
  refine akL (kl_iload (k0 := 3) rfl (by decide +kernel)) ?_
  refine akL (kl_const (ins := .iconst 3) (by decide +kernel) (.inl ⟨3, rfl, rfl, by decide⟩)) ?_
  refine akL (kl_iadd (by decide +kernel)) ?_
  refine akL (kl_at (by decide +kernel)) ?_
  refine akL (kl_callK (fun E' h => kK_company h l) qK_company ck11 kd40 iK_company qiK_company qsK_company (by decide) qlK_company (by decide +kernel)) ?_
  refine akL (kl_same (off := 1718) (by decide) (by decide +kernel)) ?_
  exact trivial
set_option maxRecDepth 1000000 in
theorem eL_6 (L : Nat) (xs : Nat → Int32) (K : SL → Option Unit) (i : Int32) (M N : Mem) : runL (cL_6 L xs) K 100 482 (i, [], M, N) = ixx (i + 1) L fun j1 => ixx (i + 2) L fun j2 => ixx (i + 3) L fun j3 => (mF_company (xs j1) (xs j2) (xs j3) M).bind fun q4 => ixx (i + 1) L fun j5 => ixx (i + 2) L fun j6 => ixx (i + 3) L fun j7 => (mK_company (xs j5) (xs j6) (xs j7) N).bind fun q8 => if q4.1 = q8.1 then K (i, [], q4.2, q8.2) else none := id rfl
theorem gL_6 {L p B : Nat} {xs : Nat → Int32} {M N : Mem} {K : SL → Option Unit} (hL : L ≤ 384) (hp : p + 6 ≤ L) (hB : B < 10000) (h : Rel B M N) (hK : ∀ M' N', Rel (B + 1) M' N' → K (nI p, [], M', N') = some ()) : runL (cL_6 L xs) K 100 482 (nI p, [], M, N) = some () := by
  rw [eL_6]
  have i1 : ∀ F : Nat → Option Unit, ixx (nI p + 1) L F = F (p + 1) := fun F => ixL hL hp (c := 1) (by decide) F
  have i2 : ∀ F : Nat → Option Unit, ixx (nI p + 2) L F = F (p + 2) := fun F => ixL hL hp (c := 2) (by decide) F
  have i3 : ∀ F : Nat → Option Unit, ixx (nI p + 3) L F = F (p + 3) := fun F => ixL hL hp (c := 3) (by decide) F
  simp only [i1, i2, i3]
  obtain ⟨r, M1, N1, e1, e2, h1⟩ := s_company h (xs (p + 1)) (xs (p + 2)) (xs (p + 3))
  rw [e1]
  simp only [Option.bind_some]
  rw [e2]
  simp only [Option.bind_some, if_true]
  exact hK M1 N1 h1
def cL_7 (L : Nat) (xs : Nat → Int32) : List (Nat × StL) := [(525, lA 525 0),
  (526, lA 526 99),
  (527, lI 527),
  (528, lC 528 1 1),
  (529, lBin 529 (fun x y => x + y)),
  (530, lAt 530 L xs),
  (531, lA 531 99),
  (532, lI 532),
  (533, lC 533 1 2),
  (534, lBin 534 (fun x y => x + y)),
  (535, lAt 535 L xs),
  (536, lCallF 536 3 dF_march),
  (539, lA 539 40),
  (540, lA 540 99),
  (541, lI 541),
  (542, lC 542 1 1),
  (543, lBin 543 (fun x y => x + y)),
  (544, lAt 544 L xs),
  (545, lA 545 99),
  (546, lI 546),
  (547, lC 547 1 2),
  (548, lBin 548 (fun x y => x + y)),
  (549, lAt 549 L xs),
  (550, lCallK 550 3 dK_march),
  (553, lSame 2238)]
theorem oL_7 (L : Nat) (xs : Nat → Int32) (l : Launch) : AllL L xs l (cL_7 L xs) := by
  refine akL (kl_aload (k0 := 1) (.inr (.inl ⟨rfl, rfl⟩)) (by decide +kernel)) ?_
  refine akL (kl_aload (k0 := 0) (.inl ⟨rfl, rfl⟩) (by decide +kernel)) ?_
  refine akL (kl_iload (k0 := 3) rfl (by decide +kernel)) ?_
  refine akL (kl_const (ins := .iconst 1) (by decide +kernel) (.inl ⟨1, rfl, rfl, by decide⟩)) ?_
  refine akL (kl_iadd (by decide +kernel)) ?_
  refine akL (kl_at (by decide +kernel)) ?_
  refine akL (kl_aload (k0 := 0) (.inl ⟨rfl, rfl⟩) (by decide +kernel)) ?_
  refine akL (kl_iload (k0 := 3) rfl (by decide +kernel)) ?_
  refine akL (kl_const (ins := .iconst 2) (by decide +kernel) (.inl ⟨2, rfl, rfl, by decide⟩)) ?_
  refine akL (kl_iadd (by decide +kernel)) ?_
  refine akL (kl_at (by decide +kernel)) ?_
  refine akL (kl_callF (fun E' h => kF_march h l) qF_march ck10 kd0 iF_march qiF_march qsF_march (by decide) qlF_march (by decide +kernel)) ?_
  refine akL (kl_aload (k0 := 2) (.inr (.inr ⟨rfl, rfl⟩)) (by decide +kernel)) ?_
  refine akL (kl_aload (k0 := 0) (.inl ⟨rfl, rfl⟩) (by decide +kernel)) ?_
  refine akL (kl_iload (k0 := 3) rfl (by decide +kernel)) ?_
  refine akL (kl_const (ins := .iconst 1) (by decide +kernel) (.inl ⟨1, rfl, rfl, by decide⟩)) ?_
  refine akL (kl_iadd (by decide +kernel)) ?_
  refine akL (kl_at (by decide +kernel)) ?_
  refine akL (kl_aload (k0 := 0) (.inl ⟨rfl, rfl⟩) (by decide +kernel)) ?_
  refine akL (kl_iload (k0 := 3) rfl (by decide +kernel)) ?_
  refine akL (kl_const (ins := .iconst 2) (by decide +kernel) (.inl ⟨2, rfl, rfl, by decide⟩)) ?_
  refine akL (kl_iadd (by decide +kernel)) ?_
  refine akL (kl_at (by decide +kernel)) ?_
  refine akL (kl_callK (fun E' h => kK_march h l) qK_march ck11 kd40 iK_march qiK_march qsK_march (by decide) qlK_march (by decide +kernel)) ?_
  refine akL (kl_same (off := 1685) (by decide) (by decide +kernel)) ?_
  exact trivial
set_option maxRecDepth 1000000 in
theorem eL_7 (L : Nat) (xs : Nat → Int32) (K : SL → Option Unit) (i : Int32) (M N : Mem) : runL (cL_7 L xs) K 100 525 (i, [], M, N) = ixx (i + 1) L fun j1 => ixx (i + 2) L fun j2 => (mF_march (xs j1) (xs j2) M).bind fun q3 => ixx (i + 1) L fun j4 => ixx (i + 2) L fun j5 => (mK_march (xs j4) (xs j5) N).bind fun q6 => if q3.1 = q6.1 then K (i, [], q3.2, q6.2) else none := id rfl
theorem gL_7 {L p B : Nat} {xs : Nat → Int32} {M N : Mem} {K : SL → Option Unit} (hL : L ≤ 384) (hp : p + 6 ≤ L) (hB : B < 10000) (h : Rel B M N) (hK : ∀ M' N', Rel (B + 1) M' N' → K (nI p, [], M', N') = some ()) : runL (cL_7 L xs) K 100 525 (nI p, [], M, N) = some () := by
  rw [eL_7]
  have i1 : ∀ F : Nat → Option Unit, ixx (nI p + 1) L F = F (p + 1) := fun F => ixL hL hp (c := 1) (by decide) F
  have i2 : ∀ F : Nat → Option Unit, ixx (nI p + 2) L F = F (p + 2) := fun F => ixL hL hp (c := 2) (by decide) F
  simp only [i1, i2]
  obtain ⟨r, M1, N1, e1, e2, h1⟩ := s_march h (xs (p + 1)) (xs (p + 2))
  rw [e1]
  simp only [Option.bind_some]
  rw [e2]
  simp only [Option.bind_some, if_true]
  exact hK M1 N1 h1
def cL_8 (L : Nat) (xs : Nat → Int32) : List (Nat × StL) := [(558, lA 558 0),
  (559, lA 559 99),
  (560, lI 560),
  (561, lC 561 1 1),
  (562, lBin 562 (fun x y => x + y)),
  (563, lAt 563 L xs),
  (564, lA 564 99),
  (565, lI 565),
  (566, lC 566 1 2),
  (567, lBin 567 (fun x y => x + y)),
  (568, lAt 568 L xs),
  (569, lCallF 569 3 dF_buy),
  (572, lA 572 40),
  (573, lA 573 99),
  (574, lI 574),
  (575, lC 575 1 1),
  (576, lBin 576 (fun x y => x + y)),
  (577, lAt 577 L xs),
  (578, lA 578 99),
  (579, lI 579),
  (580, lC 580 1 2),
  (581, lBin 581 (fun x y => x + y)),
  (582, lAt 582 L xs),
  (583, lCallK 583 3 dK_buy),
  (586, lSame 2238)]
theorem oL_8 (L : Nat) (xs : Nat → Int32) (l : Launch) : AllL L xs l (cL_8 L xs) := by
  refine akL (kl_aload (k0 := 1) (.inr (.inl ⟨rfl, rfl⟩)) (by decide +kernel)) ?_
  refine akL (kl_aload (k0 := 0) (.inl ⟨rfl, rfl⟩) (by decide +kernel)) ?_
  refine akL (kl_iload (k0 := 3) rfl (by decide +kernel)) ?_
  refine akL (kl_const (ins := .iconst 1) (by decide +kernel) (.inl ⟨1, rfl, rfl, by decide⟩)) ?_
  refine akL (kl_iadd (by decide +kernel)) ?_
  refine akL (kl_at (by decide +kernel)) ?_
  refine akL (kl_aload (k0 := 0) (.inl ⟨rfl, rfl⟩) (by decide +kernel)) ?_
  refine akL (kl_iload (k0 := 3) rfl (by decide +kernel)) ?_
  refine akL (kl_const (ins := .iconst 2) (by decide +kernel) (.inl ⟨2, rfl, rfl, by decide⟩)) ?_
  refine akL (kl_iadd (by decide +kernel)) ?_
  refine akL (kl_at (by decide +kernel)) ?_
  refine akL (kl_callF (fun E' h => kF_buy h l) qF_buy ck10 kd0 iF_buy qiF_buy qsF_buy (by decide) qlF_buy (by decide +kernel)) ?_
  refine akL (kl_aload (k0 := 2) (.inr (.inr ⟨rfl, rfl⟩)) (by decide +kernel)) ?_
  refine akL (kl_aload (k0 := 0) (.inl ⟨rfl, rfl⟩) (by decide +kernel)) ?_
  refine akL (kl_iload (k0 := 3) rfl (by decide +kernel)) ?_
  refine akL (kl_const (ins := .iconst 1) (by decide +kernel) (.inl ⟨1, rfl, rfl, by decide⟩)) ?_
  refine akL (kl_iadd (by decide +kernel)) ?_
  refine akL (kl_at (by decide +kernel)) ?_
  refine akL (kl_aload (k0 := 0) (.inl ⟨rfl, rfl⟩) (by decide +kernel)) ?_
  refine akL (kl_iload (k0 := 3) rfl (by decide +kernel)) ?_
  refine akL (kl_const (ins := .iconst 2) (by decide +kernel) (.inl ⟨2, rfl, rfl, by decide⟩)) ?_
  refine akL (kl_iadd (by decide +kernel)) ?_
  refine akL (kl_at (by decide +kernel)) ?_
  refine akL (kl_callK (fun E' h => kK_buy h l) qK_buy ck11 kd40 iK_buy qiK_buy qsK_buy (by decide) qlK_buy (by decide +kernel)) ?_
  refine akL (kl_same (off := 1652) (by decide) (by decide +kernel)) ?_
  exact trivial
set_option maxRecDepth 1000000 in
theorem eL_8 (L : Nat) (xs : Nat → Int32) (K : SL → Option Unit) (i : Int32) (M N : Mem) : runL (cL_8 L xs) K 100 558 (i, [], M, N) = ixx (i + 1) L fun j1 => ixx (i + 2) L fun j2 => (mF_buy (xs j1) (xs j2) M).bind fun q3 => ixx (i + 1) L fun j4 => ixx (i + 2) L fun j5 => (mK_buy (xs j4) (xs j5) N).bind fun q6 => if q3.1 = q6.1 then K (i, [], q3.2, q6.2) else none := id rfl
theorem gL_8 {L p B : Nat} {xs : Nat → Int32} {M N : Mem} {K : SL → Option Unit} (hL : L ≤ 384) (hp : p + 6 ≤ L) (hB : B < 10000) (h : Rel B M N) (hK : ∀ M' N', Rel (B + 1) M' N' → K (nI p, [], M', N') = some ()) : runL (cL_8 L xs) K 100 558 (nI p, [], M, N) = some () := by
  rw [eL_8]
  have i1 : ∀ F : Nat → Option Unit, ixx (nI p + 1) L F = F (p + 1) := fun F => ixL hL hp (c := 1) (by decide) F
  have i2 : ∀ F : Nat → Option Unit, ixx (nI p + 2) L F = F (p + 2) := fun F => ixL hL hp (c := 2) (by decide) F
  simp only [i1, i2]
  obtain ⟨r, M1, N1, e1, e2, h1⟩ := s_buy h (xs (p + 1)) (xs (p + 2)) hB
  rw [e1]
  simp only [Option.bind_some]
  rw [e2]
  simp only [Option.bind_some, if_true]
  exact hK M1 N1 h1
def cL_9 (L : Nat) (xs : Nat → Int32) : List (Nat × StL) := [(591, lA 591 0),
  (592, lA 592 99),
  (593, lI 593),
  (594, lC 594 1 1),
  (595, lBin 595 (fun x y => x + y)),
  (596, lAt 596 L xs),
  (597, lA 597 99),
  (598, lI 598),
  (599, lC 599 1 2),
  (600, lBin 600 (fun x y => x + y)),
  (601, lAt 601 L xs),
  (602, lCallF 602 3 dF_about),
  (605, lA 605 40),
  (606, lA 606 99),
  (607, lI 607),
  (608, lC 608 1 1),
  (609, lBin 609 (fun x y => x + y)),
  (610, lAt 610 L xs),
  (611, lA 611 99),
  (612, lI 612),
  (613, lC 613 1 2),
  (614, lBin 614 (fun x y => x + y)),
  (615, lAt 615 L xs),
  (616, lCallK 616 3 dK_about),
  (619, lSame 2238)]
theorem oL_9 (L : Nat) (xs : Nat → Int32) (l : Launch) : AllL L xs l (cL_9 L xs) := by
  refine akL (kl_aload (k0 := 1) (.inr (.inl ⟨rfl, rfl⟩)) (by decide +kernel)) ?_
  refine akL (kl_aload (k0 := 0) (.inl ⟨rfl, rfl⟩) (by decide +kernel)) ?_
  refine akL (kl_iload (k0 := 3) rfl (by decide +kernel)) ?_
  refine akL (kl_const (ins := .iconst 1) (by decide +kernel) (.inl ⟨1, rfl, rfl, by decide⟩)) ?_
  refine akL (kl_iadd (by decide +kernel)) ?_
  refine akL (kl_at (by decide +kernel)) ?_
  refine akL (kl_aload (k0 := 0) (.inl ⟨rfl, rfl⟩) (by decide +kernel)) ?_
  refine akL (kl_iload (k0 := 3) rfl (by decide +kernel)) ?_
  refine akL (kl_const (ins := .iconst 2) (by decide +kernel) (.inl ⟨2, rfl, rfl, by decide⟩)) ?_
  refine akL (kl_iadd (by decide +kernel)) ?_
  refine akL (kl_at (by decide +kernel)) ?_
  refine akL (kl_callF (fun E' h => kF_about h l) qF_about ck10 kd0 iF_about qiF_about qsF_about (by decide) qlF_about (by decide +kernel)) ?_
  refine akL (kl_aload (k0 := 2) (.inr (.inr ⟨rfl, rfl⟩)) (by decide +kernel)) ?_
  refine akL (kl_aload (k0 := 0) (.inl ⟨rfl, rfl⟩) (by decide +kernel)) ?_
  refine akL (kl_iload (k0 := 3) rfl (by decide +kernel)) ?_
  refine akL (kl_const (ins := .iconst 1) (by decide +kernel) (.inl ⟨1, rfl, rfl, by decide⟩)) ?_
  refine akL (kl_iadd (by decide +kernel)) ?_
  refine akL (kl_at (by decide +kernel)) ?_
  refine akL (kl_aload (k0 := 0) (.inl ⟨rfl, rfl⟩) (by decide +kernel)) ?_
  refine akL (kl_iload (k0 := 3) rfl (by decide +kernel)) ?_
  refine akL (kl_const (ins := .iconst 2) (by decide +kernel) (.inl ⟨2, rfl, rfl, by decide⟩)) ?_
  refine akL (kl_iadd (by decide +kernel)) ?_
  refine akL (kl_at (by decide +kernel)) ?_
  refine akL (kl_callK (fun E' h => kK_about h l) qK_about ck11 kd40 iK_about qiK_about qsK_about (by decide) qlK_about (by decide +kernel)) ?_
  refine akL (kl_same (off := 1619) (by decide) (by decide +kernel)) ?_
  exact trivial
set_option maxRecDepth 1000000 in
theorem eL_9 (L : Nat) (xs : Nat → Int32) (K : SL → Option Unit) (i : Int32) (M N : Mem) : runL (cL_9 L xs) K 100 591 (i, [], M, N) = ixx (i + 1) L fun j1 => ixx (i + 2) L fun j2 => (mF_about (xs j1) (xs j2) M).bind fun q3 => ixx (i + 1) L fun j4 => ixx (i + 2) L fun j5 => (mK_about (xs j4) (xs j5) N).bind fun q6 => if q3.1 = q6.1 then K (i, [], q3.2, q6.2) else none := id rfl
theorem gL_9 {L p B : Nat} {xs : Nat → Int32} {M N : Mem} {K : SL → Option Unit} (hL : L ≤ 384) (hp : p + 6 ≤ L) (hB : B < 10000) (h : Rel B M N) (hK : ∀ M' N', Rel (B + 1) M' N' → K (nI p, [], M', N') = some ()) : runL (cL_9 L xs) K 100 591 (nI p, [], M, N) = some () := by
  rw [eL_9]
  have i1 : ∀ F : Nat → Option Unit, ixx (nI p + 1) L F = F (p + 1) := fun F => ixL hL hp (c := 1) (by decide) F
  have i2 : ∀ F : Nat → Option Unit, ixx (nI p + 2) L F = F (p + 2) := fun F => ixL hL hp (c := 2) (by decide) F
  simp only [i1, i2]
  obtain ⟨r, M1, N1, e1, e2, h1⟩ := s_about h (xs (p + 1)) (xs (p + 2))
  rw [e1]
  simp only [Option.bind_some]
  rw [e2]
  simp only [Option.bind_some, if_true]
  exact hK M1 N1 h1
def cL_10 (L : Nat) (xs : Nat → Int32) : List (Nat × StL) := [(624, lA 624 0),
  (625, lA 625 99),
  (626, lI 626),
  (627, lC 627 1 1),
  (628, lBin 628 (fun x y => x + y)),
  (629, lAt 629 L xs),
  (630, lA 630 99),
  (631, lI 631),
  (632, lC 632 1 2),
  (633, lBin 633 (fun x y => x + y)),
  (634, lAt 634 L xs),
  (635, lA 635 99),
  (636, lI 636),
  (637, lC 637 1 3),
  (638, lBin 638 (fun x y => x + y)),
  (639, lAt 639 L xs),
  (640, lCallF 640 4 dF_lance),
  (643, lA 643 40),
  (644, lA 644 99),
  (645, lI 645),
  (646, lC 646 1 1),
  (647, lBin 647 (fun x y => x + y)),
  (648, lAt 648 L xs),
  (649, lA 649 99),
  (650, lI 650),
  (651, lC 651 1 2),
  (652, lBin 652 (fun x y => x + y)),
  (653, lAt 653 L xs),
  (654, lA 654 99),
  (655, lI 655),
  (656, lC 656 1 3),
  (657, lBin 657 (fun x y => x + y)),
  (658, lAt 658 L xs),
  (659, lCallK 659 4 dK_lance),
  (662, lSame 2238)]
theorem oL_10 (L : Nat) (xs : Nat → Int32) (l : Launch) : AllL L xs l (cL_10 L xs) := by
  refine akL (kl_aload (k0 := 1) (.inr (.inl ⟨rfl, rfl⟩)) (by decide +kernel)) ?_
  refine akL (kl_aload (k0 := 0) (.inl ⟨rfl, rfl⟩) (by decide +kernel)) ?_
  refine akL (kl_iload (k0 := 3) rfl (by decide +kernel)) ?_
  refine akL (kl_const (ins := .iconst 1) (by decide +kernel) (.inl ⟨1, rfl, rfl, by decide⟩)) ?_
  refine akL (kl_iadd (by decide +kernel)) ?_
  refine akL (kl_at (by decide +kernel)) ?_
  refine akL (kl_aload (k0 := 0) (.inl ⟨rfl, rfl⟩) (by decide +kernel)) ?_
  refine akL (kl_iload (k0 := 3) rfl (by decide +kernel)) ?_
  refine akL (kl_const (ins := .iconst 2) (by decide +kernel) (.inl ⟨2, rfl, rfl, by decide⟩)) ?_
  refine akL (kl_iadd (by decide +kernel)) ?_
  refine akL (kl_at (by decide +kernel)) ?_
  refine akL (kl_aload (k0 := 0) (.inl ⟨rfl, rfl⟩) (by decide +kernel)) ?_
  refine akL (kl_iload (k0 := 3) rfl (by decide +kernel)) ?_
  refine akL (kl_const (ins := .iconst 3) (by decide +kernel) (.inl ⟨3, rfl, rfl, by decide⟩)) ?_
  refine akL (kl_iadd (by decide +kernel)) ?_
  refine akL (kl_at (by decide +kernel)) ?_
  refine akL (kl_callF (fun E' h => kF_lance h l) qF_lance ck10 kd0 iF_lance qiF_lance qsF_lance (by decide) qlF_lance (by decide +kernel)) ?_
  refine akL (kl_aload (k0 := 2) (.inr (.inr ⟨rfl, rfl⟩)) (by decide +kernel)) ?_
  refine akL (kl_aload (k0 := 0) (.inl ⟨rfl, rfl⟩) (by decide +kernel)) ?_
  refine akL (kl_iload (k0 := 3) rfl (by decide +kernel)) ?_
  refine akL (kl_const (ins := .iconst 1) (by decide +kernel) (.inl ⟨1, rfl, rfl, by decide⟩)) ?_
  refine akL (kl_iadd (by decide +kernel)) ?_
  refine akL (kl_at (by decide +kernel)) ?_
  refine akL (kl_aload (k0 := 0) (.inl ⟨rfl, rfl⟩) (by decide +kernel)) ?_
  refine akL (kl_iload (k0 := 3) rfl (by decide +kernel)) ?_
  refine akL (kl_const (ins := .iconst 2) (by decide +kernel) (.inl ⟨2, rfl, rfl, by decide⟩)) ?_
  refine akL (kl_iadd (by decide +kernel)) ?_
  refine akL (kl_at (by decide +kernel)) ?_
  refine akL (kl_aload (k0 := 0) (.inl ⟨rfl, rfl⟩) (by decide +kernel)) ?_
  refine akL (kl_iload (k0 := 3) rfl (by decide +kernel)) ?_
  refine akL (kl_const (ins := .iconst 3) (by decide +kernel) (.inl ⟨3, rfl, rfl, by decide⟩)) ?_
  refine akL (kl_iadd (by decide +kernel)) ?_
  refine akL (kl_at (by decide +kernel)) ?_
  refine akL (kl_callK (fun E' h => kK_lance h l) qK_lance ck11 kd40 iK_lance qiK_lance qsK_lance (by decide) qlK_lance (by decide +kernel)) ?_
  refine akL (kl_same (off := 1576) (by decide) (by decide +kernel)) ?_
  exact trivial
set_option maxRecDepth 1000000 in
theorem eL_10 (L : Nat) (xs : Nat → Int32) (K : SL → Option Unit) (i : Int32) (M N : Mem) : runL (cL_10 L xs) K 100 624 (i, [], M, N) = ixx (i + 1) L fun j1 => ixx (i + 2) L fun j2 => ixx (i + 3) L fun j3 => (mF_lance (xs j1) (xs j2) (xs j3) M).bind fun q4 => ixx (i + 1) L fun j5 => ixx (i + 2) L fun j6 => ixx (i + 3) L fun j7 => (mK_lance (xs j5) (xs j6) (xs j7) N).bind fun q8 => if q4.1 = q8.1 then K (i, [], q4.2, q8.2) else none := id rfl
theorem gL_10 {L p B : Nat} {xs : Nat → Int32} {M N : Mem} {K : SL → Option Unit} (hL : L ≤ 384) (hp : p + 6 ≤ L) (hB : B < 10000) (h : Rel B M N) (hK : ∀ M' N', Rel (B + 1) M' N' → K (nI p, [], M', N') = some ()) : runL (cL_10 L xs) K 100 624 (nI p, [], M, N) = some () := by
  rw [eL_10]
  have i1 : ∀ F : Nat → Option Unit, ixx (nI p + 1) L F = F (p + 1) := fun F => ixL hL hp (c := 1) (by decide) F
  have i2 : ∀ F : Nat → Option Unit, ixx (nI p + 2) L F = F (p + 2) := fun F => ixL hL hp (c := 2) (by decide) F
  have i3 : ∀ F : Nat → Option Unit, ixx (nI p + 3) L F = F (p + 3) := fun F => ixL hL hp (c := 3) (by decide) F
  simp only [i1, i2, i3]
  obtain ⟨r, M1, N1, e1, e2, h1⟩ := s_lance h (xs (p + 1)) (xs (p + 2)) (xs (p + 3))
  rw [e1]
  simp only [Option.bind_some]
  rw [e2]
  simp only [Option.bind_some, if_true]
  exact hK M1 N1 h1
def cL_11 (L : Nat) (xs : Nat → Int32) : List (Nat × StL) := [(667, lA 667 0),
  (668, lA 668 99),
  (669, lI 669),
  (670, lC 670 1 1),
  (671, lBin 671 (fun x y => x + y)),
  (672, lAt 672 L xs),
  (673, lA 673 99),
  (674, lI 674),
  (675, lC 675 1 2),
  (676, lBin 676 (fun x y => x + y)),
  (677, lAt 677 L xs),
  (678, lCallF 678 3 dF_lanceIs),
  (681, lA 681 40),
  (682, lA 682 99),
  (683, lI 683),
  (684, lC 684 1 1),
  (685, lBin 685 (fun x y => x + y)),
  (686, lAt 686 L xs),
  (687, lA 687 99),
  (688, lI 688),
  (689, lC 689 1 2),
  (690, lBin 690 (fun x y => x + y)),
  (691, lAt 691 L xs),
  (692, lCallK 692 3 dK_lanceIs),
  (695, lSame 2238)]
theorem oL_11 (L : Nat) (xs : Nat → Int32) (l : Launch) : AllL L xs l (cL_11 L xs) := by
  refine akL (kl_aload (k0 := 1) (.inr (.inl ⟨rfl, rfl⟩)) (by decide +kernel)) ?_
  refine akL (kl_aload (k0 := 0) (.inl ⟨rfl, rfl⟩) (by decide +kernel)) ?_
  refine akL (kl_iload (k0 := 3) rfl (by decide +kernel)) ?_
  refine akL (kl_const (ins := .iconst 1) (by decide +kernel) (.inl ⟨1, rfl, rfl, by decide⟩)) ?_
  refine akL (kl_iadd (by decide +kernel)) ?_
  refine akL (kl_at (by decide +kernel)) ?_
  refine akL (kl_aload (k0 := 0) (.inl ⟨rfl, rfl⟩) (by decide +kernel)) ?_
  refine akL (kl_iload (k0 := 3) rfl (by decide +kernel)) ?_
  refine akL (kl_const (ins := .iconst 2) (by decide +kernel) (.inl ⟨2, rfl, rfl, by decide⟩)) ?_
  refine akL (kl_iadd (by decide +kernel)) ?_
  refine akL (kl_at (by decide +kernel)) ?_
  refine akL (kl_callF (fun E' h => kF_lanceIs h l) qF_lanceIs ck10 kd0 iF_lanceIs qiF_lanceIs qsF_lanceIs (by decide) qlF_lanceIs (by decide +kernel)) ?_
  refine akL (kl_aload (k0 := 2) (.inr (.inr ⟨rfl, rfl⟩)) (by decide +kernel)) ?_
  refine akL (kl_aload (k0 := 0) (.inl ⟨rfl, rfl⟩) (by decide +kernel)) ?_
  refine akL (kl_iload (k0 := 3) rfl (by decide +kernel)) ?_
  refine akL (kl_const (ins := .iconst 1) (by decide +kernel) (.inl ⟨1, rfl, rfl, by decide⟩)) ?_
  refine akL (kl_iadd (by decide +kernel)) ?_
  refine akL (kl_at (by decide +kernel)) ?_
  refine akL (kl_aload (k0 := 0) (.inl ⟨rfl, rfl⟩) (by decide +kernel)) ?_
  refine akL (kl_iload (k0 := 3) rfl (by decide +kernel)) ?_
  refine akL (kl_const (ins := .iconst 2) (by decide +kernel) (.inl ⟨2, rfl, rfl, by decide⟩)) ?_
  refine akL (kl_iadd (by decide +kernel)) ?_
  refine akL (kl_at (by decide +kernel)) ?_
  refine akL (kl_callK (fun E' h => kK_lanceIs h l) qK_lanceIs ck11 kd40 iK_lanceIs qiK_lanceIs qsK_lanceIs (by decide) qlK_lanceIs (by decide +kernel)) ?_
  refine akL (kl_same (off := 1543) (by decide) (by decide +kernel)) ?_
  exact trivial
set_option maxRecDepth 1000000 in
theorem eL_11 (L : Nat) (xs : Nat → Int32) (K : SL → Option Unit) (i : Int32) (M N : Mem) : runL (cL_11 L xs) K 100 667 (i, [], M, N) = ixx (i + 1) L fun j1 => ixx (i + 2) L fun j2 => (mF_lanceIs (xs j1) (xs j2) M).bind fun q3 => ixx (i + 1) L fun j4 => ixx (i + 2) L fun j5 => (mK_lanceIs (xs j4) (xs j5) N).bind fun q6 => if q3.1 = q6.1 then K (i, [], q3.2, q6.2) else none := id rfl
theorem gL_11 {L p B : Nat} {xs : Nat → Int32} {M N : Mem} {K : SL → Option Unit} (hL : L ≤ 384) (hp : p + 6 ≤ L) (hB : B < 10000) (h : Rel B M N) (hK : ∀ M' N', Rel (B + 1) M' N' → K (nI p, [], M', N') = some ()) : runL (cL_11 L xs) K 100 667 (nI p, [], M, N) = some () := by
  rw [eL_11]
  have i1 : ∀ F : Nat → Option Unit, ixx (nI p + 1) L F = F (p + 1) := fun F => ixL hL hp (c := 1) (by decide) F
  have i2 : ∀ F : Nat → Option Unit, ixx (nI p + 2) L F = F (p + 2) := fun F => ixL hL hp (c := 2) (by decide) F
  simp only [i1, i2]
  obtain ⟨r, M1, N1, e1, e2, h1⟩ := s_lanceIs h (xs (p + 1)) (xs (p + 2))
  rw [e1]
  simp only [Option.bind_some]
  rw [e2]
  simp only [Option.bind_some, if_true]
  exact hK M1 N1 h1
