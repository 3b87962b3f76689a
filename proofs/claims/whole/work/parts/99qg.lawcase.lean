/-! ===== the law, case by case ===== -/
def cL_36 (L : Nat) (xs : Nat → Int32) : List (Nat × StL) := [(1684, lA 1684 0),
  (1685, lA 1685 99),
  (1686, lI 1686),
  (1687, lC 1687 1 1),
  (1688, lBin 1688 (fun x y => x + y)),
  (1689, lAt 1689 L xs),
  (1690, lA 1690 99),
  (1691, lI 1691),
  (1692, lC 1692 1 2),
  (1693, lBin 1693 (fun x y => x + y)),
  (1694, lAt 1694 L xs),
  (1695, lA 1695 99),
  (1696, lI 1696),
  (1697, lC 1697 1 3),
  (1698, lBin 1698 (fun x y => x + y)),
  (1699, lAt 1699 L xs),
  (1700, lCallF 1700 4 dF_parts),
  (1703, lA 1703 40),
  (1704, lA 1704 99),
  (1705, lI 1705),
  (1706, lC 1706 1 1),
  (1707, lBin 1707 (fun x y => x + y)),
  (1708, lAt 1708 L xs),
  (1709, lA 1709 99),
  (1710, lI 1710),
  (1711, lC 1711 1 2),
  (1712, lBin 1712 (fun x y => x + y)),
  (1713, lAt 1713 L xs),
  (1714, lA 1714 99),
  (1715, lI 1715),
  (1716, lC 1716 1 3),
  (1717, lBin 1717 (fun x y => x + y)),
  (1718, lAt 1718 L xs),
  (1719, lCallK 1719 4 dK_parts),
  (1722, lSame 2238)]
theorem oL_36 (L : Nat) (xs : Nat → Int32) (l : Launch) : AllL L xs l (cL_36 L xs) := by
  refine akL (kl_aload (k0 := 1) (.inr (.inl ⟨rfl, rfl⟩)) (by decide +kernel)) ?_
  refine akL (kl_aload (k0 := 0) (.inl ⟨rfl, rfl⟩) (by decide +kernel)) ?_
  refine akL (kl_iload (k0 := 3) rfl (by decide +kernel)) ?_
  refine akL (kl_const (ins := .iconst 1) (by decide +kernel) (.inl ⟨1, rfl, rfl, by decide⟩)) ?_
  refine akL (kl_iadd (by decide +kernel)) ?_
  refine akL (kl_at (by decide +kernel)) ?_
  refine akL (kl_aload (k0 := 0) (.inl ⟨rfl, rfl⟩) (by decide +kernel)) ?_
  refine akL (kl_iload (k0 := 3) rfl (by decide +kernel)) ?_
  refine akL (kl_const (ins := .iconst 2) (by decide +kernel) (.inl ⟨2, rfl, rfl, by decide⟩)) ?_
  refine akL (kl_iadd (by decide +kernel)) ?_
  refine akL (kl_at (by decide +kernel)) ?_
  refine akL (kl_aload (k0 := 0) (.inl ⟨rfl, rfl⟩) (by decide +kernel)) ?_
  refine akL (kl_iload (k0 := 3) rfl (by decide +kernel)) ?_
  refine akL (kl_const (ins := .iconst 3) (by decide +kernel) (.inl ⟨3, rfl, rfl, by decide⟩)) ?_
  refine akL (kl_iadd (by decide +kernel)) ?_
  refine akL (kl_at (by decide +kernel)) ?_
  refine akL (kl_callF (fun E' h => kF_parts h l) qF_parts ck10 kd0 iF_parts qiF_parts qsF_parts (by decide) qlF_parts (by decide +kernel)) ?_
  refine akL (kl_aload (k0 := 2) (.inr (.inr ⟨rfl, rfl⟩)) (by decide +kernel)) ?_
  refine akL (kl_aload (k0 := 0) (.inl ⟨rfl, rfl⟩) (by decide +kernel)) ?_
  refine akL (kl_iload (k0 := 3) rfl (by decide +kernel)) ?_
  refine akL (kl_const (ins := .iconst 1) (by decide +kernel) (.inl ⟨1, rfl, rfl, by decide⟩)) ?_
  refine akL (kl_iadd (by decide +kernel)) ?_
  refine akL (kl_at (by decide +kernel)) ?_
  refine akL (kl_aload (k0 := 0) (.inl ⟨rfl, rfl⟩) (by decide +kernel)) ?_
  refine akL (kl_iload (k0 := 3) rfl (by decide +kernel)) ?_
  refine akL (kl_const (ins := .iconst 2) (by decide +kernel) (.inl ⟨2, rfl, rfl, by decide⟩)) ?_
  refine akL (kl_iadd (by decide +kernel)) ?_
  refine akL (kl_at (by decide +kernel)) ?_
  refine akL (kl_aload (k0 := 0) (.inl ⟨rfl, rfl⟩) (by decide +kernel)) ?_
  refine akL (kl_iload (k0 := 3) rfl (by decide +kernel)) ?_
  refine akL (kl_const (ins := .iconst 3) (by decide +kernel) (.inl ⟨3, rfl, rfl, by decide⟩)) ?_
  refine akL (kl_iadd (by decide +kernel)) ?_
  refine akL (kl_at (by decide +kernel)) ?_
  refine akL (kl_callK (fun E' h => kK_parts h l) qK_parts ck11 kd40 iK_parts qiK_parts qsK_parts (by decide) qlK_parts (by decide +kernel)) ?_
  refine akL (kl_same (off := 516) (by decide) (by decide +kernel)) ?_
  exact trivial
set_option maxRecDepth 1000000 in
theorem eL_36 (L : Nat) (xs : Nat → Int32) (K : SL → Option Unit) (i : Int32) (M N : Mem) : runL (cL_36 L xs) K 100 1684 (i, [], M, N) = ixx (i + 1) L fun j1 => ixx (i + 2) L fun j2 => ixx (i + 3) L fun j3 => (mF_parts (xs j1) (xs j2) (xs j3) M).bind fun q4 => ixx (i + 1) L fun j5 => ixx (i + 2) L fun j6 => ixx (i + 3) L fun j7 => (mK_parts (xs j5) (xs j6) (xs j7) N).bind fun q8 => if q4.1 = q8.1 then K (i, [], q4.2, q8.2) else none := id rfl
theorem gL_36 {L p B : Nat} {xs : Nat → Int32} {M N : Mem} {K : SL → Option Unit} (hL : L ≤ 384) (hp : p + 6 ≤ L) (hB : B < 10000) (h : Rel B M N) (hK : ∀ M' N', Rel (B + 1) M' N' → K (nI p, [], M', N') = some ()) : runL (cL_36 L xs) K 100 1684 (nI p, [], M, N) = some () := by
  rw [eL_36]
  have i1 : ∀ F : Nat → Option Unit, ixx (nI p + 1) L F = F (p + 1) := fun F => ixL hL hp (c := 1) (by decide) F
  have i2 : ∀ F : Nat → Option Unit, ixx (nI p + 2) L F = F (p + 2) := fun F => ixL hL hp (c := 2) (by decide) F
  have i3 : ∀ F : Nat → Option Unit, ixx (nI p + 3) L F = F (p + 3) := fun F => ixL hL hp (c := 3) (by decide) F
  simp only [i1, i2, i3]
  obtain ⟨r, M1, N1, e1, e2, h1⟩ := s_parts h (xs (p + 1)) (xs (p + 2)) (xs (p + 3))
  rw [e1]
  simp only [Option.bind_some]
  rw [e2]
  simp only [Option.bind_some, if_true]
  exact hK M1 N1 h1
def cL_37 (L : Nat) (xs : Nat → Int32) : List (Nat × StL) := [(1727, lA 1727 0),
  (1728, lA 1728 99),
  (1729, lI 1729),
  (1730, lC 1730 1 1),
  (1731, lBin 1731 (fun x y => x + y)),
  (1732, lAt 1732 L xs),
  (1733, lCallF 1733 2 dF_share),
  (1736, lA 1736 40),
  (1737, lA 1737 99),
  (1738, lI 1738),
  (1739, lC 1739 1 1),
  (1740, lBin 1740 (fun x y => x + y)),
  (1741, lAt 1741 L xs),
  (1742, lCallK 1742 2 dK_share),
  (1745, lSame 2238)]
theorem oL_37 (L : Nat) (xs : Nat → Int32) (l : Launch) : AllL L xs l (cL_37 L xs) := by
  refine akL (kl_aload (k0 := 1) (.inr (.inl ⟨rfl, rfl⟩)) (by decide +kernel)) ?_
  refine akL (kl_aload (k0 := 0) (.inl ⟨rfl, rfl⟩) (by decide +kernel)) ?_
  refine akL (kl_iload (k0 := 3) rfl (by decide +kernel)) ?_
  refine akL (kl_const (ins := .iconst 1) (by decide +kernel) (.inl ⟨1, rfl, rfl, by decide⟩)) ?_
  refine akL (kl_iadd (by decide +kernel)) ?_
  refine akL (kl_at (by decide +kernel)) ?_
  refine akL (kl_callF (fun E' h => kF_share h l) qF_share ck10 kd0 iF_share qiF_share qsF_share (by decide) qlF_share (by decide +kernel)) ?_
  refine akL (kl_aload (k0 := 2) (.inr (.inr ⟨rfl, rfl⟩)) (by decide +kernel)) ?_
  refine akL (kl_aload (k0 := 0) (.inl ⟨rfl, rfl⟩) (by decide +kernel)) ?_
  refine akL (kl_iload (k0 := 3) rfl (by decide +kernel)) ?_
  refine akL (kl_const (ins := .iconst 1) (by decide +kernel) (.inl ⟨1, rfl, rfl, by decide⟩)) ?_
  refine akL (kl_iadd (by decide +kernel)) ?_
  refine akL (kl_at (by decide +kernel)) ?_
  refine akL (kl_callK (fun E' h => kK_share h l) qK_share ck11 kd40 iK_share qiK_share qsK_share (by decide) qlK_share (by decide +kernel)) ?_
  refine akL (kl_same (off := 493) (by decide) (by decide +kernel)) ?_
  exact trivial
set_option maxRecDepth 1000000 in
theorem eL_37 (L : Nat) (xs : Nat → Int32) (K : SL → Option Unit) (i : Int32) (M N : Mem) : runL (cL_37 L xs) K 100 1727 (i, [], M, N) = ixx (i + 1) L fun j1 => (mF_share (xs j1) M).bind fun q2 => ixx (i + 1) L fun j3 => (mK_share (xs j3) N).bind fun q4 => if q2.1 = q4.1 then K (i, [], q2.2, q4.2) else none := id rfl
theorem gL_37 {L p B : Nat} {xs : Nat → Int32} {M N : Mem} {K : SL → Option Unit} (hL : L ≤ 384) (hp : p + 6 ≤ L) (hB : B < 10000) (h : Rel B M N) (hK : ∀ M' N', Rel (B + 1) M' N' → K (nI p, [], M', N') = some ()) : runL (cL_37 L xs) K 100 1727 (nI p, [], M, N) = some () := by
  rw [eL_37]
  have i1 : ∀ F : Nat → Option Unit, ixx (nI p + 1) L F = F (p + 1) := fun F => ixL hL hp (c := 1) (by decide) F
  simp only [i1]
  obtain ⟨r, M1, N1, e1, e2, h1⟩ := s_share h (xs (p + 1))
  rw [e1]
  simp only [Option.bind_some]
  rw [e2]
  simp only [Option.bind_some, if_true]
  exact hK M1 N1 h1
def cL_38 (L : Nat) (xs : Nat → Int32) : List (Nat × StL) := [(1750, lA 1750 0),
  (1751, lA 1751 99),
  (1752, lI 1752),
  (1753, lC 1753 1 1),
  (1754, lBin 1754 (fun x y => x + y)),
  (1755, lAt 1755 L xs),
  (1756, lA 1756 99),
  (1757, lI 1757),
  (1758, lC 1758 1 2),
  (1759, lBin 1759 (fun x y => x + y)),
  (1760, lAt 1760 L xs),
  (1761, lA 1761 99),
  (1762, lI 1762),
  (1763, lC 1763 1 3),
  (1764, lBin 1764 (fun x y => x + y)),
  (1765, lAt 1765 L xs),
  (1766, lCallF 1766 4 dF_winter),
  (1769, lA 1769 40),
  (1770, lA 1770 99),
  (1771, lI 1771),
  (1772, lC 1772 1 1),
  (1773, lBin 1773 (fun x y => x + y)),
  (1774, lAt 1774 L xs),
  (1775, lA 1775 99),
  (1776, lI 1776),
  (1777, lC 1777 1 2),
  (1778, lBin 1778 (fun x y => x + y)),
  (1779, lAt 1779 L xs),
  (1780, lA 1780 99),
  (1781, lI 1781),
  (1782, lC 1782 1 3),
  (1783, lBin 1783 (fun x y => x + y)),
  (1784, lAt 1784 L xs),
  (1785, lCallK 1785 4 dK_winter),
  (1788, lSame 2238)]
theorem oL_38 (L : Nat) (xs : Nat → Int32) (l : Launch) : AllL L xs l (cL_38 L xs) := by
  refine akL (kl_aload (k0 := 1) (.inr (.inl ⟨rfl, rfl⟩)) (by decide +kernel)) ?_
  refine akL (kl_aload (k0 := 0) (.inl ⟨rfl, rfl⟩) (by decide +kernel)) ?_
  refine akL (kl_iload (k0 := 3) rfl (by decide +kernel)) ?_
  refine akL (kl_const (ins := .iconst 1) (by decide +kernel) (.inl ⟨1, rfl, rfl, by decide⟩)) ?_
  refine akL (kl_iadd (by decide +kernel)) ?_
  refine akL (kl_at (by decide +kernel)) ?_
  refine akL (kl_aload (k0 := 0) (.inl ⟨rfl, rfl⟩) (by decide +kernel)) ?_
  refine akL (kl_iload (k0 := 3) rfl (by decide +kernel)) ?_
  refine akL (kl_const (ins := .iconst 2) (by decide +kernel) (.inl ⟨2, rfl, rfl, by decide⟩)) ?_
  refine akL (kl_iadd (by decide +kernel)) ?_
  refine akL (kl_at (by decide +kernel)) ?_
  refine akL (kl_aload (k0 := 0) (.inl ⟨rfl, rfl⟩) (by decide +kernel)) ?_
  refine akL (kl_iload (k0 := 3) rfl (by decide +kernel)) ?_
  refine akL (kl_const (ins := .iconst 3) (by decide +kernel) (.inl ⟨3, rfl, rfl, by decide⟩)) ?_
  refine akL (kl_iadd (by decide +kernel)) ?_
  refine akL (kl_at (by decide +kernel)) ?_
  refine akL (kl_callF (fun E' h => kF_winter h l) qF_winter ck10 kd0 iF_winter qiF_winter qsF_winter (by decide) qlF_winter (by decide +kernel)) ?_
  refine akL (kl_aload (k0 := 2) (.inr (.inr ⟨rfl, rfl⟩)) (by decide +kernel)) ?_
  refine akL (kl_aload (k0 := 0) (.inl ⟨rfl, rfl⟩) (by decide +kernel)) ?_
  refine akL (kl_iload (k0 := 3) rfl (by decide +kernel)) ?_
  refine akL (kl_const (ins := .iconst 1) (by decide +kernel) (.inl ⟨1, rfl, rfl, by decide⟩)) ?_
  refine akL (kl_iadd (by decide +kernel)) ?_
  refine akL (kl_at (by decide +kernel)) ?_
  refine akL (kl_aload (k0 := 0) (.inl ⟨rfl, rfl⟩) (by decide +kernel)) ?_
  refine akL (kl_iload (k0 := 3) rfl (by decide +kernel)) ?_
  refine akL (kl_const (ins := .iconst 2) (by decide +kernel) (.inl ⟨2, rfl, rfl, by decide⟩)) ?_
  refine akL (kl_iadd (by decide +kernel)) ?_
  refine akL (kl_at (by decide +kernel)) ?_
  refine akL (kl_aload (k0 := 0) (.inl ⟨rfl, rfl⟩) (by decide +kernel)) ?_
  refine akL (kl_iload (k0 := 3) rfl (by decide +kernel)) ?_
  refine akL (kl_const (ins := .iconst 3) (by decide +kernel) (.inl ⟨3, rfl, rfl, by decide⟩)) ?_
  refine akL (kl_iadd (by decide +kernel)) ?_
  refine akL (kl_at (by decide +kernel)) ?_
  refine akL (kl_callK (fun E' h => kK_winter h l) qK_winter ck11 kd40 iK_winter qiK_winter qsK_winter (by decide) qlK_winter (by decide +kernel)) ?_
  refine akL (kl_same (off := 450) (by decide) (by decide +kernel)) ?_
  exact trivial
set_option maxRecDepth 1000000 in
theorem eL_38 (L : Nat) (xs : Nat → Int32) (K : SL → Option Unit) (i : Int32) (M N : Mem) : runL (cL_38 L xs) K 100 1750 (i, [], M, N) = ixx (i + 1) L fun j1 => ixx (i + 2) L fun j2 => ixx (i + 3) L fun j3 => (mF_winter (xs j1) (xs j2) (xs j3) M).bind fun q4 => ixx (i + 1) L fun j5 => ixx (i + 2) L fun j6 => ixx (i + 3) L fun j7 => (mK_winter (xs j5) (xs j6) (xs j7) N).bind fun q8 => if q4.1 = q8.1 then K (i, [], q4.2, q8.2) else none := id rfl
theorem gL_38 {L p B : Nat} {xs : Nat → Int32} {M N : Mem} {K : SL → Option Unit} (hL : L ≤ 384) (hp : p + 6 ≤ L) (hB : B < 10000) (h : Rel B M N) (hK : ∀ M' N', Rel (B + 1) M' N' → K (nI p, [], M', N') = some ()) : runL (cL_38 L xs) K 100 1750 (nI p, [], M, N) = some () := by
  rw [eL_38]
  have i1 : ∀ F : Nat → Option Unit, ixx (nI p + 1) L F = F (p + 1) := fun F => ixL hL hp (c := 1) (by decide) F
  have i2 : ∀ F : Nat → Option Unit, ixx (nI p + 2) L F = F (p + 2) := fun F => ixL hL hp (c := 2) (by decide) F
  have i3 : ∀ F : Nat → Option Unit, ixx (nI p + 3) L F = F (p + 3) := fun F => ixL hL hp (c := 3) (by decide) F
  simp only [i1, i2, i3]
  obtain ⟨r, M1, N1, e1, e2, h1⟩ := s_winter h (xs (p + 1)) (xs (p + 2)) (xs (p + 3))
  rw [e1]
  simp only [Option.bind_some]
  rw [e2]
  simp only [Option.bind_some, if_true]
  exact hK M1 N1 h1
def cL_39 (L : Nat) (xs : Nat → Int32) : List (Nat × StL) := [(1793, lA 1793 0),
  (1794, lA 1794 99),
  (1795, lI 1795),
  (1796, lC 1796 1 1),
  (1797, lBin 1797 (fun x y => x + y)),
  (1798, lAt 1798 L xs),
  (1799, lCallF 1799 2 dF_wintering),
  (1802, lA 1802 40),
  (1803, lA 1803 99),
  (1804, lI 1804),
  (1805, lC 1805 1 1),
  (1806, lBin 1806 (fun x y => x + y)),
  (1807, lAt 1807 L xs),
  (1808, lCallK 1808 2 dK_wintering),
  (1811, lSame 2238)]
theorem oL_39 (L : Nat) (xs : Nat → Int32) (l : Launch) : AllL L xs l (cL_39 L xs) := by
  refine akL (kl_aload (k0 := 1) (.inr (.inl ⟨rfl, rfl⟩)) (by decide +kernel)) ?_
  refine akL (kl_aload (k0 := 0) (.inl ⟨rfl, rfl⟩) (by decide +kernel)) ?_
  refine akL (kl_iload (k0 := 3) rfl (by decide +kernel)) ?_
  refine akL (kl_const (ins := .iconst 1) (by decide +kernel) (.inl ⟨1, rfl, rfl, by decide⟩)) ?_
  refine akL (kl_iadd (by decide +kernel)) ?_
  refine akL (kl_at (by decide +kernel)) ?_
  refine akL (kl_callF (fun E' h => kF_wintering h l) qF_wintering ck10 kd0 iF_wintering qiF_wintering qsF_wintering (by decide) qlF_wintering (by decide +kernel)) ?_
  refine akL (kl_aload (k0 := 2) (.inr (.inr ⟨rfl, rfl⟩)) (by decide +kernel)) ?_
  refine akL (kl_aload (k0 := 0) (.inl ⟨rfl, rfl⟩) (by decide +kernel)) ?_
  refine akL (kl_iload (k0 := 3) rfl (by decide +kernel)) ?_
  refine akL (kl_const (ins := .iconst 1) (by decide +kernel) (.inl ⟨1, rfl, rfl, by decide⟩)) ?_
  refine akL (kl_iadd (by decide +kernel)) ?_
  refine akL (kl_at (by decide +kernel)) ?_
  refine akL (kl_callK (fun E' h => kK_wintering h l) qK_wintering ck11 kd40 iK_wintering qiK_wintering qsK_wintering (by decide) qlK_wintering (by decide +kernel)) ?_
  refine akL (kl_same (off := 427) (by decide) (by decide +kernel)) ?_
  exact trivial
set_option maxRecDepth 1000000 in
theorem eL_39 (L : Nat) (xs : Nat → Int32) (K : SL → Option Unit) (i : Int32) (M N : Mem) : runL (cL_39 L xs) K 100 1793 (i, [], M, N) = ixx (i + 1) L fun j1 => (mF_wintering (xs j1) M).bind fun q2 => ixx (i + 1) L fun j3 => (mK_wintering (xs j3) N).bind fun q4 => if q2.1 = q4.1 then K (i, [], q2.2, q4.2) else none := id rfl
theorem gL_39 {L p B : Nat} {xs : Nat → Int32} {M N : Mem} {K : SL → Option Unit} (hL : L ≤ 384) (hp : p + 6 ≤ L) (hB : B < 10000) (h : Rel B M N) (hK : ∀ M' N', Rel (B + 1) M' N' → K (nI p, [], M', N') = some ()) : runL (cL_39 L xs) K 100 1793 (nI p, [], M, N) = some () := by
  rw [eL_39]
  have i1 : ∀ F : Nat → Option Unit, ixx (nI p + 1) L F = F (p + 1) := fun F => ixL hL hp (c := 1) (by decide) F
  simp only [i1]
  obtain ⟨r, M1, N1, e1, e2, h1⟩ := s_wintering h (xs (p + 1))
  rw [e1]
  simp only [Option.bind_some]
  rw [e2]
  simp only [Option.bind_some, if_true]
  exact hK M1 N1 h1
def cL_40 (L : Nat) (xs : Nat → Int32) : List (Nat × StL) := [(1816, lA 1816 0),
  (1817, lA 1817 99),
  (1818, lI 1818),
  (1819, lC 1819 1 1),
  (1820, lBin 1820 (fun x y => x + y)),
  (1821, lAt 1821 L xs),
  (1822, lA 1822 99),
  (1823, lI 1823),
  (1824, lC 1824 1 2),
  (1825, lBin 1825 (fun x y => x + y)),
  (1826, lAt 1826 L xs),
  (1827, lCallF 1827 3 dF_hiring),
  (1830, lA 1830 40),
  (1831, lA 1831 99),
  (1832, lI 1832),
  (1833, lC 1833 1 1),
  (1834, lBin 1834 (fun x y => x + y)),
  (1835, lAt 1835 L xs),
  (1836, lA 1836 99),
  (1837, lI 1837),
  (1838, lC 1838 1 2),
  (1839, lBin 1839 (fun x y => x + y)),
  (1840, lAt 1840 L xs),
  (1841, lCallK 1841 3 dK_hiring),
  (1844, lSame 2238)]
theorem oL_40 (L : Nat) (xs : Nat → Int32) (l : Launch) : AllL L xs l (cL_40 L xs) := by
  refine akL (kl_aload (k0 := 1) (.inr (.inl ⟨rfl, rfl⟩)) (by decide +kernel)) ?_
  refine akL (kl_aload (k0 := 0) (.inl ⟨rfl, rfl⟩) (by decide +kernel)) ?_
  refine akL (kl_iload (k0 := 3) rfl (by decide +kernel)) ?_
  refine akL (kl_const (ins := .iconst 1) (by decide +kernel) (.inl ⟨1, rfl, rfl, by decide⟩)) ?_
  refine akL (kl_iadd (by decide +kernel)) ?_
  refine akL (kl_at (by decide +kernel)) ?_
  refine akL (kl_aload (k0 := 0) (.inl ⟨rfl, rfl⟩) (by decide +kernel)) ?_
  refine akL (kl_iload (k0 := 3) rfl (by decide +kernel)) ?_
  refine akL (kl_const (ins := .iconst 2) (by decide +kernel) (.inl ⟨2, rfl, rfl, by decide⟩)) ?_
  refine akL (kl_iadd (by decide +kernel)) ?_
  refine akL (kl_at (by decide +kernel)) ?_
  refine akL (kl_callF (fun E' h => kF_hiring h l) qF_hiring ck10 kd0 iF_hiring qiF_hiring qsF_hiring (by decide) qlF_hiring (by decide +kernel)) ?_
  refine akL (kl_aload (k0 := 2) (.inr (.inr ⟨rfl, rfl⟩)) (by decide +kernel)) ?_
  refine akL (kl_aload (k0 := 0) (.inl ⟨rfl, rfl⟩) (by decide +kernel)) ?_
  refine akL (kl_iload (k0 := 3) rfl (by decide +kernel)) ?_
  refine akL (kl_const (ins := .iconst 1) (by decide +kernel) (.inl ⟨1, rfl, rfl, by decide⟩)) ?_
  refine akL (kl_iadd (by decide +kernel)) ?_
  refine akL (kl_at (by decide +kernel)) ?_
  refine akL (kl_aload (k0 := 0) (.inl ⟨rfl, rfl⟩) (by decide +kernel)) ?_
  refine akL (kl_iload (k0 := 3) rfl (by decide +kernel)) ?_
  refine akL (kl_const (ins := .iconst 2) (by decide +kernel) (.inl ⟨2, rfl, rfl, by decide⟩)) ?_
  refine akL (kl_iadd (by decide +kernel)) ?_
  refine akL (kl_at (by decide +kernel)) ?_
  refine akL (kl_callK (fun E' h => kK_hiring h l) qK_hiring ck11 kd40 iK_hiring qiK_hiring qsK_hiring (by decide) qlK_hiring (by decide +kernel)) ?_
  refine akL (kl_same (off := 394) (by decide) (by decide +kernel)) ?_
  exact trivial
set_option maxRecDepth 1000000 in
theorem eL_40 (L : Nat) (xs : Nat → Int32) (K : SL → Option Unit) (i : Int32) (M N : Mem) : runL (cL_40 L xs) K 100 1816 (i, [], M, N) = ixx (i + 1) L fun j1 => ixx (i + 2) L fun j2 => (mF_hiring (xs j1) (xs j2) M).bind fun q3 => ixx (i + 1) L fun j4 => ixx (i + 2) L fun j5 => (mK_hiring (xs j4) (xs j5) N).bind fun q6 => if q3.1 = q6.1 then K (i, [], q3.2, q6.2) else none := id rfl
theorem gL_40 {L p B : Nat} {xs : Nat → Int32} {M N : Mem} {K : SL → Option Unit} (hL : L ≤ 384) (hp : p + 6 ≤ L) (hB : B < 10000) (h : Rel B M N) (hK : ∀ M' N', Rel (B + 1) M' N' → K (nI p, [], M', N') = some ()) : runL (cL_40 L xs) K 100 1816 (nI p, [], M, N) = some () := by
  rw [eL_40]
  have i1 : ∀ F : Nat → Option Unit, ixx (nI p + 1) L F = F (p + 1) := fun F => ixL hL hp (c := 1) (by decide) F
  have i2 : ∀ F : Nat → Option Unit, ixx (nI p + 2) L F = F (p + 2) := fun F => ixL hL hp (c := 2) (by decide) F
  simp only [i1, i2]
  obtain ⟨r, M1, N1, e1, e2, h1⟩ := s_hiring h (xs (p + 1)) (xs (p + 2))
  rw [e1]
  simp only [Option.bind_some]
  rw [e2]
  simp only [Option.bind_some, if_true]
  exact hK M1 N1 h1
def cL_41 (L : Nat) (xs : Nat → Int32) : List (Nat × StL) := [(1849, lA 1849 0),
  (1850, lA 1850 99),
  (1851, lI 1851),
  (1852, lC 1852 1 1),
  (1853, lBin 1853 (fun x y => x + y)),
  (1854, lAt 1854 L xs),
  (1855, lCallF 1855 2 dF_days),
  (1858, lA 1858 40),
  (1859, lA 1859 99),
  (1860, lI 1860),
  (1861, lC 1861 1 1),
  (1862, lBin 1862 (fun x y => x + y)),
  (1863, lAt 1863 L xs),
  (1864, lCallK 1864 2 dK_days),
  (1867, lSame 2238)]
theorem oL_41 (L : Nat) (xs : Nat → Int32) (l : Launch) : AllL L xs l (cL_41 L xs) := by
  refine akL (kl_aload (k0 := 1) (.inr (.inl ⟨rfl, rfl⟩)) (by decide +kernel)) ?_
  refine akL (kl_aload (k0 := 0) (.inl ⟨rfl, rfl⟩) (by decide +kernel)) ?_
  refine akL (kl_iload (k0 := 3) rfl (by decide +kernel)) ?_
  refine akL (kl_const (ins := .iconst 1) (by decide +kernel) (.inl ⟨1, rfl, rfl, by decide⟩)) ?_
  refine akL (kl_iadd (by decide +kernel)) ?_
  refine akL (kl_at (by decide +kernel)) ?_
  refine akL (kl_callF (fun E' h => kF_days h l) qF_days ck10 kd0 iF_days qiF_days qsF_days (by decide) qlF_days (by decide +kernel)) ?_
  refine akL (kl_aload (k0 := 2) (.inr (.inr ⟨rfl, rfl⟩)) (by decide +kernel)) ?_
  refine akL (kl_aload (k0 := 0) (.inl ⟨rfl, rfl⟩) (by decide +kernel)) ?_
  refine akL (kl_iload (k0 := 3) rfl (by decide +kernel)) ?_
  refine akL (kl_const (ins := .iconst 1) (by decide +kernel) (.inl ⟨1, rfl, rfl, by decide⟩)) ?_
  refine akL (kl_iadd (by decide +kernel)) ?_
  refine akL (kl_at (by decide +kernel)) ?_
  refine akL (kl_callK (fun E' h => kK_days h l) qK_days ck11 kd40 iK_days qiK_days qsK_days (by decide) qlK_days (by decide +kernel)) ?_
  refine akL (kl_same (off := 371) (by decide) (by decide +kernel)) ?_
  exact trivial
set_option maxRecDepth 1000000 in
theorem eL_41 (L : Nat) (xs : Nat → Int32) (K : SL → Option Unit) (i : Int32) (M N : Mem) : runL (cL_41 L xs) K 100 1849 (i, [], M, N) = ixx (i + 1) L fun j1 => (mF_days (xs j1) M).bind fun q2 => ixx (i + 1) L fun j3 => (mK_days (xs j3) N).bind fun q4 => if q2.1 = q4.1 then K (i, [], q2.2, q4.2) else none := id rfl
theorem gL_41 {L p B : Nat} {xs : Nat → Int32} {M N : Mem} {K : SL → Option Unit} (hL : L ≤ 384) (hp : p + 6 ≤ L) (hB : B < 10000) (h : Rel B M N) (hK : ∀ M' N', Rel (B + 1) M' N' → K (nI p, [], M', N') = some ()) : runL (cL_41 L xs) K 100 1849 (nI p, [], M, N) = some () := by
  rw [eL_41]
  have i1 : ∀ F : Nat → Option Unit, ixx (nI p + 1) L F = F (p + 1) := fun F => ixL hL hp (c := 1) (by decide) F
  simp only [i1]
  obtain ⟨r, M1, N1, e1, e2, h1⟩ := s_days h (xs (p + 1)) hB
  rw [e1]
  simp only [Option.bind_some]
  rw [e2]
  simp only [Option.bind_some, if_true]
  exact hK M1 N1 h1
