/-! ===== the law, case by case ===== -/
def cL_30 (L : Nat) (xs : Nat → Int32) : List (Nat × StL) := [(1424, lA 1424 0),
  (1425, lA 1425 99),
  (1426, lI 1426),
  (1427, lC 1427 1 1),
  (1428, lBin 1428 (fun x y => x + y)),
  (1429, lAt 1429 L xs),
  (1430, lA 1430 99),
  (1431, lI 1431),
  (1432, lC 1432 1 2),
  (1433, lBin 1433 (fun x y => x + y)),
  (1434, lAt 1434 L xs),
  (1435, lIfEq 1435 1442),
  (1438, lC 1438 1 1),
  (1439, lGoto 1443),
  (1442, lC 1442 1 0),
  (1443, lCallF 1443 3 dF_free),
  (1446, lA 1446 40),
  (1447, lA 1447 99),
  (1448, lI 1448),
  (1449, lC 1449 1 1),
  (1450, lBin 1450 (fun x y => x + y)),
  (1451, lAt 1451 L xs),
  (1452, lA 1452 99),
  (1453, lI 1453),
  (1454, lC 1454 1 2),
  (1455, lBin 1455 (fun x y => x + y)),
  (1456, lAt 1456 L xs),
  (1457, lIfEq 1457 1464),
  (1460, lC 1460 1 1),
  (1461, lGoto 1465),
  (1464, lC 1464 1 0),
  (1465, lCallK 1465 3 dK_free),
  (1468, lSame 2238)]
theorem oL_30 (L : Nat) (xs : Nat → Int32) (l : Launch) : AllL L xs l (cL_30 L xs) := by
  refine akL (kl_aload (k0 := 1) (.inr (.inl ⟨rfl, rfl⟩)) (by decide +kernel)) ?_
  refine akL (kl_aload (k0 := 0) (.inl ⟨rfl, rfl⟩) (by decide +kernel)) ?_
  refine akL (kl_iload (k0 := 3) rfl (by decide +kernel)) ?_
  refine akL (kl_const (ins := .iconst 1) (by decide +kernel) (.inl ⟨1, rfl, rfl, by decide⟩)) ?_
  refine akL (kl_iadd (by decide +kernel)) ?_
  refine akL (kl_at (by decide +kernel)) ?_
  refine akL (kl_aload (k0 := 0) (.inl ⟨rfl, rfl⟩) (by decide +kernel)) ?_
  refine akL (kl_iload (k0 := 3) rfl (by decide +kernel)) ?_
  refine akL (kl_const (ins := .iconst 2) (by decide +kernel) (.inl ⟨2, rfl, rfl, by decide⟩)) ?_
  refine akL (kl_iadd (by decide +kernel)) ?_
  refine akL (kl_at (by decide +kernel)) ?_
  refine akL (kl_ifeq (off := 7) (by decide) (by decide +kernel)) ?_
  refine akL (kl_const (ins := .iconst 1) (by decide +kernel) (.inl ⟨1, rfl, rfl, by decide⟩)) ?_
  refine akL (kl_goto (off := 4) (by decide) (by decide +kernel)) ?_
  refine akL (kl_const (ins := .iconst 0) (by decide +kernel) (.inl ⟨0, rfl, rfl, by decide⟩)) ?_
  refine akL (kl_callF (fun E' h => kF_free h l) qF_free ck10 kd0 iF_free qiF_free qsF_free (by decide) qlF_free (by decide +kernel)) ?_
  refine akL (kl_aload (k0 := 2) (.inr (.inr ⟨rfl, rfl⟩)) (by decide +kernel)) ?_
  refine akL (kl_aload (k0 := 0) (.inl ⟨rfl, rfl⟩) (by decide +kernel)) ?_
  refine akL (kl_iload (k0 := 3) rfl (by decide +kernel)) ?_
  refine akL (kl_const (ins := .iconst 1) (by decide +kernel) (.inl ⟨1, rfl, rfl, by decide⟩)) ?_
  refine akL (kl_iadd (by decide +kernel)) ?_
  refine akL (kl_at (by decide +kernel)) ?_
  refine akL (kl_aload (k0 := 0) (.inl ⟨rfl, rfl⟩) (by decide +kernel)) ?_
  refine akL (kl_iload (k0 := 3) rfl (by decide +kernel)) ?_
  refine akL (kl_const (ins := .iconst 2) (by decide +kernel) (.inl ⟨2, rfl, rfl, by decide⟩)) ?_
  refine akL (kl_iadd (by decide +kernel)) ?_
  refine akL (kl_at (by decide +kernel)) ?_
  refine akL (kl_ifeq (off := 7) (by decide) (by decide +kernel)) ?_
  refine akL (kl_const (ins := .iconst 1) (by decide +kernel) (.inl ⟨1, rfl, rfl, by decide⟩)) ?_
  refine akL (kl_goto (off := 4) (by decide) (by decide +kernel)) ?_
  refine akL (kl_const (ins := .iconst 0) (by decide +kernel) (.inl ⟨0, rfl, rfl, by decide⟩)) ?_
  refine akL (kl_callK (fun E' h => kK_free h l) qK_free ck11 kd40 iK_free qiK_free qsK_free (by decide) qlK_free (by decide +kernel)) ?_
  refine akL (kl_same (off := 770) (by decide) (by decide +kernel)) ?_
  exact trivial
set_option maxRecDepth 1000000 in
theorem eL_30 (L : Nat) (xs : Nat → Int32) (K : SL → Option Unit) (i : Int32) (M N : Mem) : runL (cL_30 L xs) K 100 1424 (i, [], M, N) = ixx (i + 1) L fun j1 => ixx (i + 2) L fun j2 => (if (xs j2) = 0 then ((mF_free (xs j1) 0 M).bind fun q3 => ixx (i + 1) L fun j4 => ixx (i + 2) L fun j5 => (if (xs j5) = 0 then ((mK_free (xs j4) 0 N).bind fun q6 => if q3.1 = q6.1 then K (i, [], q3.2, q6.2) else none) else ((mK_free (xs j4) 1 N).bind fun q7 => if q3.1 = q7.1 then K (i, [], q3.2, q7.2) else none))) else ((mF_free (xs j1) 1 M).bind fun q8 => ixx (i + 1) L fun j9 => ixx (i + 2) L fun j10 => (if (xs j10) = 0 then ((mK_free (xs j9) 0 N).bind fun q11 => if q8.1 = q11.1 then K (i, [], q8.2, q11.2) else none) else ((mK_free (xs j9) 1 N).bind fun q12 => if q8.1 = q12.1 then K (i, [], q8.2, q12.2) else none)))) := id rfl
theorem gL_30 {L p B : Nat} {xs : Nat → Int32} {M N : Mem} {K : SL → Option Unit} (hL : L ≤ 384) (hp : p + 6 ≤ L) (hB : B < 10000) (h : Rel B M N) (hK : ∀ M' N', Rel (B + 1) M' N' → K (nI p, [], M', N') = some ()) : runL (cL_30 L xs) K 100 1424 (nI p, [], M, N) = some () := by
  rw [eL_30]
  have i1 : ∀ F : Nat → Option Unit, ixx (nI p + 1) L F = F (p + 1) := fun F => ixL hL hp (c := 1) (by decide) F
  have i2 : ∀ F : Nat → Option Unit, ixx (nI p + 2) L F = F (p + 2) := fun F => ixL hL hp (c := 2) (by decide) F
  simp only [i1, i2]
  by_cases z : xs (p + 2) = 0
  · simp only [if_pos z]
    obtain ⟨r, M1, N1, e1, e2, h1⟩ := s_free h (xs (p + 1)) 0
    rw [e1]
    simp only [Option.bind_some]
    rw [e2]
    simp only [Option.bind_some, if_true]
    exact hK M1 N1 h1
  · simp only [if_neg z]
    obtain ⟨r, M1, N1, e1, e2, h1⟩ := s_free h (xs (p + 1)) 1
    rw [e1]
    simp only [Option.bind_some]
    rw [e2]
    simp only [Option.bind_some, if_true]
    exact hK M1 N1 h1
def cL_31 (L : Nat) (xs : Nat → Int32) : List (Nat × StL) := [(1473, lA 1473 0),
  (1474, lA 1474 99),
  (1475, lI 1475),
  (1476, lC 1476 1 1),
  (1477, lBin 1477 (fun x y => x + y)),
  (1478, lAt 1478 L xs),
  (1479, lA 1479 99),
  (1480, lI 1480),
  (1481, lC 1481 1 2),
  (1482, lBin 1482 (fun x y => x + y)),
  (1483, lAt 1483 L xs),
  (1484, lCallF 1484 3 dF_muster),
  (1487, lA 1487 40),
  (1488, lA 1488 99),
  (1489, lI 1489),
  (1490, lC 1490 1 1),
  (1491, lBin 1491 (fun x y => x + y)),
  (1492, lAt 1492 L xs),
  (1493, lA 1493 99),
  (1494, lI 1494),
  (1495, lC 1495 1 2),
  (1496, lBin 1496 (fun x y => x + y)),
  (1497, lAt 1497 L xs),
  (1498, lCallK 1498 3 dK_muster),
  (1501, lSame 2238)]
theorem oL_31 (L : Nat) (xs : Nat → Int32) (l : Launch) : AllL L xs l (cL_31 L xs) := by
  refine akL (kl_aload (k0 := 1) (.inr (.inl ⟨rfl, rfl⟩)) (by decide +kernel)) ?_
  refine akL (kl_aload (k0 := 0) (.inl ⟨rfl, rfl⟩) (by decide +kernel)) ?_
  refine akL (kl_iload (k0 := 3) rfl (by decide +kernel)) ?_
  refine akL (kl_const (ins := .iconst 1) (by decide +kernel) (.inl ⟨1, rfl, rfl, by decide⟩)) ?_
  refine akL (kl_iadd (by decide +kernel)) ?_
  refine akL (kl_at (by decide +kernel)) ?_
  refine akL (kl_aload (k0 := 0) (.inl ⟨rfl, rfl⟩) (by decide +kernel)) ?_
  refine akL (kl_iload (k0 := 3) rfl (by decide +kernel)) ?_
  refine akL (kl_const (ins := .iconst 2) (by decide +kernel) (.inl ⟨2, rfl, rfl, by decide⟩)) ?_
  refine akL (kl_iadd (by decide +kernel)) ?_
  refine akL (kl_at (by decide +kernel)) ?_
  refine akL (kl_callF (fun E' h => kF_muster h l) qF_muster ck10 kd0 iF_muster qiF_muster qsF_muster (by decide) qlF_muster (by decide +kernel)) ?_
  refine akL (kl_aload (k0 := 2) (.inr (.inr ⟨rfl, rfl⟩)) (by decide +kernel)) ?_
  refine akL (kl_aload (k0 := 0) (.inl ⟨rfl, rfl⟩) (by decide +kernel)) ?_
  refine akL (kl_iload (k0 := 3) rfl (by decide +kernel)) ?_
  refine akL (kl_const (ins := .iconst 1) (by decide +kernel) (.inl ⟨1, rfl, rfl, by decide⟩)) ?_
  refine akL (kl_iadd (by decide +kernel)) ?_
  refine akL (kl_at (by decide +kernel)) ?_
  refine akL (kl_aload (k0 := 0) (.inl ⟨rfl, rfl⟩) (by decide +kernel)) ?_
  refine akL (kl_iload (k0 := 3) rfl (by decide +kernel)) ?_
  refine akL (kl_const (ins := .iconst 2) (by decide +kernel) (.inl ⟨2, rfl, rfl, by decide⟩)) ?_
  refine akL (kl_iadd (by decide +kernel)) ?_
  refine akL (kl_at (by decide +kernel)) ?_
  refine akL (kl_callK (fun E' h => kK_muster h l) qK_muster ck11 kd40 iK_muster qiK_muster qsK_muster (by decide) qlK_muster (by decide +kernel)) ?_
  refine akL (kl_same (off := 737) (by decide) (by decide +kernel)) ?_
  exact trivial
set_option maxRecDepth 1000000 in
theorem eL_31 (L : Nat) (xs : Nat → Int32) (K : SL → Option Unit) (i : Int32) (M N : Mem) : runL (cL_31 L xs) K 100 1473 (i, [], M, N) = ixx (i + 1) L fun j1 => ixx (i + 2) L fun j2 => (mF_muster (xs j1) (xs j2) M).bind fun q3 => ixx (i + 1) L fun j4 => ixx (i + 2) L fun j5 => (mK_muster (xs j4) (xs j5) N).bind fun q6 => if q3.1 = q6.1 then K (i, [], q3.2, q6.2) else none := id rfl
theorem gL_31 {L p B : Nat} {xs : Nat → Int32} {M N : Mem} {K : SL → Option Unit} (hL : L ≤ 384) (hp : p + 6 ≤ L) (hB : B < 10000) (h : Rel B M N) (hK : ∀ M' N', Rel (B + 1) M' N' → K (nI p, [], M', N') = some ()) : runL (cL_31 L xs) K 100 1473 (nI p, [], M, N) = some () := by
  rw [eL_31]
  have i1 : ∀ F : Nat → Option Unit, ixx (nI p + 1) L F = F (p + 1) := fun F => ixL hL hp (c := 1) (by decide) F
  have i2 : ∀ F : Nat → Option Unit, ixx (nI p + 2) L F = F (p + 2) := fun F => ixL hL hp (c := 2) (by decide) F
  simp only [i1, i2]
  obtain ⟨r, M1, N1, e1, e2, h1⟩ := s_muster h (xs (p + 1)) (xs (p + 2))
  rw [e1]
  simp only [Option.bind_some]
  rw [e2]
  simp only [Option.bind_some, if_true]
  exact hK M1 N1 h1
def cL_32 (L : Nat) (xs : Nat → Int32) : List (Nat × StL) := [(1506, lA 1506 0),
  (1507, lA 1507 99),
  (1508, lI 1508),
  (1509, lC 1509 1 1),
  (1510, lBin 1510 (fun x y => x + y)),
  (1511, lAt 1511 L xs),
  (1512, lA 1512 99),
  (1513, lI 1513),
  (1514, lC 1514 1 2),
  (1515, lBin 1515 (fun x y => x + y)),
  (1516, lAt 1516 L xs),
  (1517, lA 1517 99),
  (1518, lI 1518),
  (1519, lC 1519 1 3),
  (1520, lBin 1520 (fun x y => x + y)),
  (1521, lAt 1521 L xs),
  (1522, lCallF 1522 4 dF_twice),
  (1525, lA 1525 40),
  (1526, lA 1526 99),
  (1527, lI 1527),
  (1528, lC 1528 1 1),
  (1529, lBin 1529 (fun x y => x + y)),
  (1530, lAt 1530 L xs),
  (1531, lA 1531 99),
  (1532, lI 1532),
  (1533, lC 1533 1 2),
  (1534, lBin 1534 (fun x y => x + y)),
  (1535, lAt 1535 L xs),
  (1536, lA 1536 99),
  (1537, lI 1537),
  (1538, lC 1538 1 3),
  (1539, lBin 1539 (fun x y => x + y)),
  (1540, lAt 1540 L xs),
  (1541, lCallK 1541 4 dK_twice),
  (1544, lSame 2238)]
theorem oL_32 (L : Nat) (xs : Nat → Int32) (l : Launch) : AllL L xs l (cL_32 L xs) := by
  refine akL (kl_aload (k0 := 1) (.inr (.inl ⟨rfl, rfl⟩)) (by decide +kernel)) ?_
  refine akL (kl_aload (k0 := 0) (.inl ⟨rfl, rfl⟩) (by decide +kernel)) ?_
  refine akL (kl_iload (k0 := 3) rfl (by decide +kernel)) ?_
  refine akL (kl_const (ins := .iconst 1) (by decide +kernel) (.inl ⟨1, rfl, rfl, by decide⟩)) ?_
  refine akL (kl_iadd (by decide +kernel)) ?_
  refine akL (kl_at (by decide +kernel)) ?_
  refine akL (kl_aload (k0 := 0) (.inl ⟨rfl, rfl⟩) (by decide +kernel)) ?_
  refine akL (kl_iload (k0 := 3) rfl (by decide +kernel)) ?_
  refine akL (kl_const (ins := .iconst 2) (by decide +kernel) (.inl ⟨2, rfl, rfl, by decide⟩)) ?_
  refine akL (kl_iadd (by decide +kernel)) ?_
  refine akL (kl_at (by decide +kernel)) ?_
  refine akL (kl_aload (k0 := 0) (.inl ⟨rfl, rfl⟩) (by decide +kernel)) ?_
  refine akL (kl_iload (k0 := 3) rfl (by decide +kernel)) ?_
  refine akL (kl_const (ins := .iconst 3) (by decide +kernel) (.inl ⟨3, rfl, rfl, by decide⟩)) ?_
  refine akL (kl_iadd (by decide +kernel)) ?_
  refine akL (kl_at (by decide +kernel)) ?_
  refine akL (kl_callF (fun E' h => kF_twice h l) qF_twice ck10 kd0 iF_twice qiF_twice qsF_twice (by decide) qlF_twice (by decide +kernel)) ?_
  refine akL (kl_aload (k0 := 2) (.inr (.inr ⟨rfl, rfl⟩)) (by decide +kernel)) ?_
  refine akL (kl_aload (k0 := 0) (.inl ⟨rfl, rfl⟩) (by decide +kernel)) ?_
  refine akL (kl_iload (k0 := 3) rfl (by decide +kernel)) ?_
  refine akL (kl_const (ins := .iconst 1) (by decide +kernel) (.inl ⟨1, rfl, rfl, by decide⟩)) ?_
  refine akL (kl_iadd (by decide +kernel)) ?_
  refine akL (kl_at (by decide +kernel)) ?_
  refine akL (kl_aload (k0 := 0) (.inl ⟨rfl, rfl⟩) (by decide +kernel)) ?_
  refine akL (kl_iload (k0 := 3) rfl (by decide +kernel)) ?_
  refine akL (kl_const (ins := .iconst 2) (by decide +kernel) (.inl ⟨2, rfl, rfl, by decide⟩)) ?_
  refine akL (kl_iadd (by decide +kernel)) ?_
  refine akL (kl_at (by decide +kernel)) ?_
  refine akL (kl_aload (k0 := 0) (.inl ⟨rfl, rfl⟩) (by decide +kernel)) ?_
  refine akL (kl_iload (k0 := 3) rfl (by decide +kernel)) ?_
  refine akL (kl_const (ins := .iconst 3) (by decide +kernel) (.inl ⟨3, rfl, rfl, by decide⟩)) ?_
  refine akL (kl_iadd (by decide +kernel)) ?_
  refine akL (kl_at (by decide +kernel)) ?_
  refine akL (kl_callK (fun E' h => kK_twice h l) qK_twice ck11 kd40 iK_twice qiK_twice qsK_twice (by decide) qlK_twice (by decide +kernel)) ?_
  refine akL (kl_same (off := 694) (by decide) (by decide +kernel)) ?_
  exact trivial
set_option maxRecDepth 1000000 in
theorem eL_32 (L : Nat) (xs : Nat → Int32) (K : SL → Option Unit) (i : Int32) (M N : Mem) : runL (cL_32 L xs) K 100 1506 (i, [], M, N) = ixx (i + 1) L fun j1 => ixx (i + 2) L fun j2 => ixx (i + 3) L fun j3 => (mF_twice (xs j1) (xs j2) (xs j3) M).bind fun q4 => ixx (i + 1) L fun j5 => ixx (i + 2) L fun j6 => ixx (i + 3) L fun j7 => (mK_twice (xs j5) (xs j6) (xs j7) N).bind fun q8 => if q4.1 = q8.1 then K (i, [], q4.2, q8.2) else none := id rfl
theorem gL_32 {L p B : Nat} {xs : Nat → Int32} {M N : Mem} {K : SL → Option Unit} (hL : L ≤ 384) (hp : p + 6 ≤ L) (hB : B < 10000) (h : Rel B M N) (hK : ∀ M' N', Rel (B + 1) M' N' → K (nI p, [], M', N') = some ()) : runL (cL_32 L xs) K 100 1506 (nI p, [], M, N) = some () := by
  rw [eL_32]
  have i1 : ∀ F : Nat → Option Unit, ixx (nI p + 1) L F = F (p + 1) := fun F => ixL hL hp (c := 1) (by decide) F
  have i2 : ∀ F : Nat → Option Unit, ixx (nI p + 2) L F = F (p + 2) := fun F => ixL hL hp (c := 2) (by decide) F
  have i3 : ∀ F : Nat → Option Unit, ixx (nI p + 3) L F = F (p + 3) := fun F => ixL hL hp (c := 3) (by decide) F
  simp only [i1, i2, i3]
  obtain ⟨r, M1, N1, e1, e2, h1⟩ := s_twice h (xs (p + 1)) (xs (p + 2)) (xs (p + 3))
  rw [e1]
  simp only [Option.bind_some]
  rw [e2]
  simp only [Option.bind_some, if_true]
  exact hK M1 N1 h1
def cL_33 (L : Nat) (xs : Nat → Int32) : List (Nat × StL) := [(1549, lA 1549 0),
  (1550, lA 1550 99),
  (1551, lI 1551),
  (1552, lC 1552 1 1),
  (1553, lBin 1553 (fun x y => x + y)),
  (1554, lAt 1554 L xs),
  (1555, lCallF 1555 2 dF_shown),
  (1558, lA 1558 40),
  (1559, lA 1559 99),
  (1560, lI 1560),
  (1561, lC 1561 1 1),
  (1562, lBin 1562 (fun x y => x + y)),
  (1563, lAt 1563 L xs),
  (1564, lCallK 1564 2 dK_shown),
  (1567, lSame 2238)]
theorem oL_33 (L : Nat) (xs : Nat → Int32) (l : Launch) : AllL L xs l (cL_33 L xs) := by
  refine akL (kl_aload (k0 := 1) (.inr (.inl ⟨rfl, rfl⟩)) (by decide +kernel)) ?_
  refine akL (kl_aload (k0 := 0) (.inl ⟨rfl, rfl⟩) (by decide +kernel)) ?_
  refine akL (kl_iload (k0 := 3) rfl (by decide +kernel)) ?_
  refine akL (kl_const (ins := .iconst 1) (by decide +kernel) (.inl ⟨1, rfl, rfl, by decide⟩)) ?_
  refine akL (kl_iadd (by decide +kernel)) ?_
  refine akL (kl_at (by decide +kernel)) ?_
  refine akL (kl_callF (fun E' h => kF_shown h l) qF_shown ck10 kd0 iF_shown qiF_shown qsF_shown (by decide) qlF_shown (by decide +kernel)) ?_
  refine akL (kl_aload (k0 := 2) (.inr (.inr ⟨rfl, rfl⟩)) (by decide +kernel)) ?_
  refine akL (kl_aload (k0 := 0) (.inl ⟨rfl, rfl⟩) (by decide +kernel)) ?_
  refine akL (kl_iload (k0 := 3) rfl (by decide +kernel)) ?_
  refine akL (kl_const (ins := .iconst 1) (by decide +kernel) (.inl ⟨1, rfl, rfl, by decide⟩)) ?_
  refine akL (kl_iadd (by decide +kernel)) ?_
  refine akL (kl_at (by decide +kernel)) ?_
  refine akL (kl_callK (fun E' h => kK_shown h l) qK_shown ck11 kd40 iK_shown qiK_shown qsK_shown (by decide) qlK_shown (by decide +kernel)) ?_
  refine akL (kl_same (off := 671) (by decide) (by decide +kernel)) ?_
  exact trivial
set_option maxRecDepth 1000000 in
theorem eL_33 (L : Nat) (xs : Nat → Int32) (K : SL → Option Unit) (i : Int32) (M N : Mem) : runL (cL_33 L xs) K 100 1549 (i, [], M, N) = ixx (i + 1) L fun j1 => (mF_shown (xs j1) M).bind fun q2 => ixx (i + 1) L fun j3 => (mK_shown (xs j3) N).bind fun q4 => if q2.1 = q4.1 then K (i, [], q2.2, q4.2) else none := id rfl
theorem gL_33 {L p B : Nat} {xs : Nat → Int32} {M N : Mem} {K : SL → Option Unit} (hL : L ≤ 384) (hp : p + 6 ≤ L) (hB : B < 10000) (h : Rel B M N) (hK : ∀ M' N', Rel (B + 1) M' N' → K (nI p, [], M', N') = some ()) : runL (cL_33 L xs) K 100 1549 (nI p, [], M, N) = some () := by
  rw [eL_33]
  have i1 : ∀ F : Nat → Option Unit, ixx (nI p + 1) L F = F (p + 1) := fun F => ixL hL hp (c := 1) (by decide) F
  simp only [i1]
  obtain ⟨r, M1, N1, e1, e2, h1⟩ := s_shown h (xs (p + 1))
  rw [e1]
  simp only [Option.bind_some]
  rw [e2]
  simp only [Option.bind_some, if_true]
  exact hK M1 N1 h1
def cL_34 (L : Nat) (xs : Nat → Int32) : List (Nat × StL) := [(1572, lA 1572 0),
  (1573, lA 1573 99),
  (1574, lI 1574),
  (1575, lC 1575 1 1),
  (1576, lBin 1576 (fun x y => x + y)),
  (1577, lAt 1577 L xs),
  (1578, lA 1578 99),
  (1579, lI 1579),
  (1580, lC 1580 1 2),
  (1581, lBin 1581 (fun x y => x + y)),
  (1582, lAt 1582 L xs),
  (1583, lA 1583 99),
  (1584, lI 1584),
  (1585, lC 1585 1 3),
  (1586, lBin 1586 (fun x y => x + y)),
  (1587, lAt 1587 L xs),
  (1588, lA 1588 99),
  (1589, lI 1589),
  (1590, lC 1590 1 4),
  (1591, lBin 1591 (fun x y => x + y)),
  (1592, lAt 1592 L xs),
  (1593, lIfEq 1593 1600),
  (1596, lC 1596 1 1),
  (1597, lGoto 1601),
  (1600, lC 1600 1 0),
  (1601, lCallF 1601 5 dF_hold),
  (1604, lA 1604 40),
  (1605, lA 1605 99),
  (1606, lI 1606),
  (1607, lC 1607 1 1),
  (1608, lBin 1608 (fun x y => x + y)),
  (1609, lAt 1609 L xs),
  (1610, lA 1610 99),
  (1611, lI 1611),
  (1612, lC 1612 1 2),
  (1613, lBin 1613 (fun x y => x + y)),
  (1614, lAt 1614 L xs),
  (1615, lA 1615 99),
  (1616, lI 1616),
  (1617, lC 1617 1 3),
  (1618, lBin 1618 (fun x y => x + y)),
  (1619, lAt 1619 L xs),
  (1620, lA 1620 99),
  (1621, lI 1621),
  (1622, lC 1622 1 4),
  (1623, lBin 1623 (fun x y => x + y)),
  (1624, lAt 1624 L xs),
  (1625, lIfEq 1625 1632),
  (1628, lC 1628 1 1),
  (1629, lGoto 1633),
  (1632, lC 1632 1 0),
  (1633, lCallK 1633 5 dK_hold),
  (1636, lSame 2238)]
theorem oL_34 (L : Nat) (xs : Nat → Int32) (l : Launch) : AllL L xs l (cL_34 L xs) := by
  refine akL (kl_aload (k0 := 1) (.inr (.inl ⟨rfl, rfl⟩)) (by decide +kernel)) ?_
  refine akL (kl_aload (k0 := 0) (.inl ⟨rfl, rfl⟩) (by decide +kernel)) ?_
  refine akL (kl_iload (k0 := 3) rfl (by decide +kernel)) ?_
  refine akL (kl_const (ins := .iconst 1) (by decide +kernel) (.inl ⟨1, rfl, rfl, by decide⟩)) ?_
  refine akL (kl_iadd (by decide +kernel)) ?_
  refine akL (kl_at (by decide +kernel)) ?_
  refine akL (kl_aload (k0 := 0) (.inl ⟨rfl, rfl⟩) (by decide +kernel)) ?_
  refine akL (kl_iload (k0 := 3) rfl (by decide +kernel)) ?_
  refine akL (kl_const (ins := .iconst 2) (by decide +kernel) (.inl ⟨2, rfl, rfl, by decide⟩)) ?_
  refine akL (kl_iadd (by decide +kernel)) ?_
  refine akL (kl_at (by decide +kernel)) ?_
  refine akL (kl_aload (k0 := 0) (.inl ⟨rfl, rfl⟩) (by decide +kernel)) ?_
  refine akL (kl_iload (k0 := 3) rfl (by decide +kernel)) ?_
  refine akL (kl_const (ins := .iconst 3) (by decide +kernel) (.inl ⟨3, rfl, rfl, by decide⟩)) ?_
  refine akL (kl_iadd (by decide +kernel)) ?_
  refine akL (kl_at (by decide +kernel)) ?_
  refine akL (kl_aload (k0 := 0) (.inl ⟨rfl, rfl⟩) (by decide +kernel)) ?_
  refine akL (kl_iload (k0 := 3) rfl (by decide +kernel)) ?_
  refine akL (kl_const (ins := .iconst 4) (by decide +kernel) (.inl ⟨4, rfl, rfl, by decide⟩)) ?_
  refine akL (kl_iadd (by decide +kernel)) ?_
  refine akL (kl_at (by decide +kernel)) ?_
  refine akL (kl_ifeq (off := 7) (by decide) (by decide +kernel)) ?_
  refine akL (kl_const (ins := .iconst 1) (by decide +kernel) (.inl ⟨1, rfl, rfl, by decide⟩)) ?_
  refine akL (kl_goto (off := 4) (by decide) (by decide +kernel)) ?_
  refine akL (kl_const (ins := .iconst 0) (by decide +kernel) (.inl ⟨0, rfl, rfl, by decide⟩)) ?_
  refine akL (kl_callF (fun E' h => kF_hold h l) qF_hold ck10 kd0 iF_hold qiF_hold qsF_hold (by decide) qlF_hold (by decide +kernel)) ?_
  refine akL (kl_aload (k0 := 2) (.inr (.inr ⟨rfl, rfl⟩)) (by decide +kernel)) ?_
  refine akL (kl_aload (k0 := 0) (.inl ⟨rfl, rfl⟩) (by decide +kernel)) ?_
  refine akL (kl_iload (k0 := 3) rfl (by decide +kernel)) ?_
  refine akL (kl_const (ins := .iconst 1) (by decide +kernel) (.inl ⟨1, rfl, rfl, by decide⟩)) ?_
  refine akL (kl_iadd (by decide +kernel)) ?_
  refine akL (kl_at (by decide +kernel)) ?_
  refine akL (kl_aload (k0 := 0) (.inl ⟨rfl, rfl⟩) (by decide +kernel)) ?_
  refine akL (kl_iload (k0 := 3) rfl (by decide +kernel)) ?_
  refine akL (kl_const (ins := .iconst 2) (by decide +kernel) (.inl ⟨2, rfl, rfl, by decide⟩)) ?_
  refine akL (kl_iadd (by decide +kernel)) ?_
  refine akL (kl_at (by decide +kernel)) ?_
  refine akL (kl_aload (k0 := 0) (.inl ⟨rfl, rfl⟩) (by decide +kernel)) ?_
  refine akL (kl_iload (k0 := 3) rfl (by decide +kernel)) ?_
  refine akL (kl_const (ins := .iconst 3) (by decide +kernel) (.inl ⟨3, rfl, rfl, by decide⟩)) ?_
  refine akL (kl_iadd (by decide +kernel)) ?_
  refine akL (kl_at (by decide +kernel)) ?_
  refine akL (kl_aload (k0 := 0) (.inl ⟨rfl, rfl⟩) (by decide +kernel)) ?_
  refine akL (kl_iload (k0 := 3) rfl (by decide +kernel)) ?_
  refine akL (kl_const (ins := .iconst 4) (by decide +kernel) (.inl ⟨4, rfl, rfl, by decide⟩)) ?_
  refine akL (kl_iadd (by decide +kernel)) ?_
  refine akL (kl_at (by decide +kernel)) ?_
  refine akL (kl_ifeq (off := 7) (by decide) (by decide +kernel)) ?_
  refine akL (kl_const (ins := .iconst 1) (by decide +kernel) (.inl ⟨1, rfl, rfl, by decide⟩)) ?_
  refine akL (kl_goto (off := 4) (by decide) (by decide +kernel)) ?_
  refine akL (kl_const (ins := .iconst 0) (by decide +kernel) (.inl ⟨0, rfl, rfl, by decide⟩)) ?_
  refine akL (kl_callK (fun E' h => kK_hold h l) qK_hold ck11 kd40 iK_hold qiK_hold qsK_hold (by decide) qlK_hold (by decide +kernel)) ?_
  refine akL (kl_same (off := 602) (by decide) (by decide +kernel)) ?_
  exact trivial
set_option maxRecDepth 1000000 in
theorem eL_34 (L : Nat) (xs : Nat → Int32) (K : SL → Option Unit) (i : Int32) (M N : Mem) : runL (cL_34 L xs) K 100 1572 (i, [], M, N) = ixx (i + 1) L fun j1 => ixx (i + 2) L fun j2 => ixx (i + 3) L fun j3 => ixx (i + 4) L fun j4 => (if (xs j4) = 0 then ((mF_hold (xs j1) (xs j2) (xs j3) 0 M).bind fun q5 => ixx (i + 1) L fun j6 => ixx (i + 2) L fun j7 => ixx (i + 3) L fun j8 => ixx (i + 4) L fun j9 => (if (xs j9) = 0 then ((mK_hold (xs j6) (xs j7) (xs j8) 0 N).bind fun q10 => if q5.1 = q10.1 then K (i, [], q5.2, q10.2) else none) else ((mK_hold (xs j6) (xs j7) (xs j8) 1 N).bind fun q11 => if q5.1 = q11.1 then K (i, [], q5.2, q11.2) else none))) else ((mF_hold (xs j1) (xs j2) (xs j3) 1 M).bind fun q12 => ixx (i + 1) L fun j13 => ixx (i + 2) L fun j14 => ixx (i + 3) L fun j15 => ixx (i + 4) L fun j16 => (if (xs j16) = 0 then ((mK_hold (xs j13) (xs j14) (xs j15) 0 N).bind fun q17 => if q12.1 = q17.1 then K (i, [], q12.2, q17.2) else none) else ((mK_hold (xs j13) (xs j14) (xs j15) 1 N).bind fun q18 => if q12.1 = q18.1 then K (i, [], q12.2, q18.2) else none)))) := id rfl
theorem gL_34 {L p B : Nat} {xs : Nat → Int32} {M N : Mem} {K : SL → Option Unit} (hL : L ≤ 384) (hp : p + 6 ≤ L) (hB : B < 10000) (h : Rel B M N) (hK : ∀ M' N', Rel (B + 1) M' N' → K (nI p, [], M', N') = some ()) : runL (cL_34 L xs) K 100 1572 (nI p, [], M, N) = some () := by
  rw [eL_34]
  have i1 : ∀ F : Nat → Option Unit, ixx (nI p + 1) L F = F (p + 1) := fun F => ixL hL hp (c := 1) (by decide) F
  have i2 : ∀ F : Nat → Option Unit, ixx (nI p + 2) L F = F (p + 2) := fun F => ixL hL hp (c := 2) (by decide) F
  have i3 : ∀ F : Nat → Option Unit, ixx (nI p + 3) L F = F (p + 3) := fun F => ixL hL hp (c := 3) (by decide) F
  have i4 : ∀ F : Nat → Option Unit, ixx (nI p + 4) L F = F (p + 4) := fun F => ixL hL hp (c := 4) (by decide) F
  simp only [i1, i2, i3, i4]
  by_cases z : xs (p + 4) = 0
  · simp only [if_pos z]
    obtain ⟨r, M1, N1, e1, e2, h1⟩ := s_hold h (xs (p + 1)) (xs (p + 2)) (xs (p + 3)) 0
    rw [e1]
    simp only [Option.bind_some]
    rw [e2]
    simp only [Option.bind_some, if_true]
    exact hK M1 N1 h1
  · simp only [if_neg z]
    obtain ⟨r, M1, N1, e1, e2, h1⟩ := s_hold h (xs (p + 1)) (xs (p + 2)) (xs (p + 3)) 1
    rw [e1]
    simp only [Option.bind_some]
    rw [e2]
    simp only [Option.bind_some, if_true]
    exact hK M1 N1 h1
def cL_35 (L : Nat) (xs : Nat → Int32) : List (Nat × StL) := [(1641, lA 1641 0),
  (1642, lA 1642 99),
  (1643, lI 1643),
  (1644, lC 1644 1 1),
  (1645, lBin 1645 (fun x y => x + y)),
  (1646, lAt 1646 L xs),
  (1647, lA 1647 99),
  (1648, lI 1648),
  (1649, lC 1649 1 2),
  (1650, lBin 1650 (fun x y => x + y)),
  (1651, lAt 1651 L xs),
  (1652, lA 1652 99),
  (1653, lI 1653),
  (1654, lC 1654 1 3),
  (1655, lBin 1655 (fun x y => x + y)),
  (1656, lAt 1656 L xs),
  (1657, lCallF 1657 4 dF_ask),
  (1660, lA 1660 40),
  (1661, lA 1661 99),
  (1662, lI 1662),
  (1663, lC 1663 1 1),
  (1664, lBin 1664 (fun x y => x + y)),
  (1665, lAt 1665 L xs),
  (1666, lA 1666 99),
  (1667, lI 1667),
  (1668, lC 1668 1 2),
  (1669, lBin 1669 (fun x y => x + y)),
  (1670, lAt 1670 L xs),
  (1671, lA 1671 99),
  (1672, lI 1672),
  (1673, lC 1673 1 3),
  (1674, lBin 1674 (fun x y => x + y)),
  (1675, lAt 1675 L xs),
  (1676, lCallK 1676 4 dK_ask),
  (1679, lSame 2238)]
theorem oL_35 (L : Nat) (xs : Nat → Int32) (l : Launch) : AllL L xs l (cL_35 L xs) := by
  refine akL (kl_aload (k0 := 1) (.inr (.inl ⟨rfl, rfl⟩)) (by decide +kernel)) ?_
  refine akL (kl_aload (k0 := 0) (.inl ⟨rfl, rfl⟩) (by decide +kernel)) ?_
  refine akL (kl_iload (k0 := 3) rfl (by decide +kernel)) ?_
  refine akL (kl_const (ins := .iconst 1) (by decide +kernel) (.inl ⟨1, rfl, rfl, by decide⟩)) ?_
  refine akL (kl_iadd (by decide +kernel)) ?_
  refine akL (kl_at (by decide +kernel)) ?_
  refine akL (kl_aload (k0 := 0) (.inl ⟨rfl, rfl⟩) (by decide +kernel)) ?_
  refine akL (kl_iload (k0 := 3) rfl (by decide +kernel)) ?_
  refine akL (kl_const (ins := .iconst 2) (by decide +kernel) (.inl ⟨2, rfl, rfl, by decide⟩)) ?_
  refine akL (kl_iadd (by decide +kernel)) ?_
  refine akL (kl_at (by decide +kernel)) ?_
  refine akL (kl_aload (k0 := 0) (.inl ⟨rfl, rfl⟩) (by decide +kernel)) ?_
  refine akL (kl_iload (k0 := 3) rfl (by decide +kernel)) ?_
  refine akL (kl_const (ins := .iconst 3) (by decide +kernel) (.inl ⟨3, rfl, rfl, by decide⟩)) ?_
  refine akL (kl_iadd (by decide +kernel)) ?_
  refine akL (kl_at (by decide +kernel)) ?_
  refine akL (kl_callF (fun E' h => kF_ask h l) qF_ask ck10 kd0 iF_ask qiF_ask qsF_ask (by decide) qlF_ask (by decide +kernel)) ?_
  refine akL (kl_aload (k0 := 2) (.inr (.inr ⟨rfl, rfl⟩)) (by decide +kernel)) ?_
  refine akL (kl_aload (k0 := 0) (.inl ⟨rfl, rfl⟩) (by decide +kernel)) ?_
  refine akL (kl_iload (k0 := 3) rfl (by decide +kernel)) ?_
  refine akL (kl_const (ins := .iconst 1) (by decide +kernel) (.inl ⟨1, rfl, rfl, by decide⟩)) ?_
  refine akL (kl_iadd (by decide +kernel)) ?_
  refine akL (kl_at (by decide +kernel)) ?_
  refine akL (kl_aload (k0 := 0) (.inl ⟨rfl, rfl⟩) (by decide +kernel)) ?_
  refine akL (kl_iload (k0 := 3) rfl (by decide +kernel)) ?_
  refine akL (kl_const (ins := .iconst 2) (by decide +kernel) (.inl ⟨2, rfl, rfl, by decide⟩)) ?_
  refine akL (kl_iadd (by decide +kernel)) ?_
  refine akL (kl_at (by decide +kernel)) ?_
  refine akL (kl_aload (k0 := 0) (.inl ⟨rfl, rfl⟩) (by decide +kernel)) ?_
  refine akL (kl_iload (k0 := 3) rfl (by decide +kernel)) ?_
  refine akL (kl_const (ins := .iconst 3) (by decide +kernel) (.inl ⟨3, rfl, rfl, by decide⟩)) ?_
  refine akL (kl_iadd (by decide +kernel)) ?_
  refine akL (kl_at (by decide +kernel)) ?_
  refine akL (kl_callK (fun E' h => kK_ask h l) qK_ask ck11 kd40 iK_ask qiK_ask qsK_ask (by decide) qlK_ask (by decide +kernel)) ?_
  refine akL (kl_same (off := 559) (by decide) (by decide +kernel)) ?_
  exact trivial
set_option maxRecDepth 1000000 in
theorem eL_35 (L : Nat) (xs : Nat → Int32) (K : SL → Option Unit) (i : Int32) (M N : Mem) : runL (cL_35 L xs) K 100 1641 (i, [], M, N) = ixx (i + 1) L fun j1 => ixx (i + 2) L fun j2 => ixx (i + 3) L fun j3 => (mF_ask (xs j1) (xs j2) (xs j3) M).bind fun q4 => ixx (i + 1) L fun j5 => ixx (i + 2) L fun j6 => ixx (i + 3) L fun j7 => (mK_ask (xs j5) (xs j6) (xs j7) N).bind fun q8 => if q4.1 = q8.1 then K (i, [], q4.2, q8.2) else none := id rfl
theorem gL_35 {L p B : Nat} {xs : Nat → Int32} {M N : Mem} {K : SL → Option Unit} (hL : L ≤ 384) (hp : p + 6 ≤ L) (hB : B < 10000) (h : Rel B M N) (hK : ∀ M' N', Rel (B + 1) M' N' → K (nI p, [], M', N') = some ()) : runL (cL_35 L xs) K 100 1641 (nI p, [], M, N) = some () := by
  rw [eL_35]
  have i1 : ∀ F : Nat → Option Unit, ixx (nI p + 1) L F = F (p + 1) := fun F => ixL hL hp (c := 1) (by decide) F
  have i2 : ∀ F : Nat → Option Unit, ixx (nI p + 2) L F = F (p + 2) := fun F => ixL hL hp (c := 2) (by decide) F
  have i3 : ∀ F : Nat → Option Unit, ixx (nI p + 3) L F = F (p + 3) := fun F => ixL hL hp (c := 3) (by decide) F
  simp only [i1, i2, i3]
  obtain ⟨r, M1, N1, e1, e2, h1⟩ := s_ask h (xs (p + 1)) (xs (p + 2)) (xs (p + 3)) hB
  rw [e1]
  simp only [Option.bind_some]
  rw [e2]
  simp only [Option.bind_some, if_true]
  exact hK M1 N1 h1
