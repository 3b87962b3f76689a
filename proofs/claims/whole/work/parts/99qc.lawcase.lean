/-! ===== the law, case by case ===== -/
def cL_12 (L : Nat) (xs : Nat → Int32) : List (Nat × StL) := [(700, lA 700 0),
  (701, lA 701 99),
  (702, lI 702),
  (703, lC 703 1 1),
  (704, lBin 704 (fun x y => x + y)),
  (705, lAt 705 L xs),
  (706, lA 706 99),
  (707, lI 707),
  (708, lC 708 1 2),
  (709, lBin 709 (fun x y => x + y)),
  (710, lAt 710 L xs),
  (711, lCallF 711 3 dF_over),
  (714, lA 714 40),
  (715, lA 715 99),
  (716, lI 716),
  (717, lC 717 1 1),
  (718, lBin 718 (fun x y => x + y)),
  (719, lAt 719 L xs),
  (720, lA 720 99),
  (721, lI 721),
  (722, lC 722 1 2),
  (723, lBin 723 (fun x y => x + y)),
  (724, lAt 724 L xs),
  (725, lCallK 725 3 dK_over),
  (728, lSame 2238)]
theorem oL_12 (L : Nat) (xs : Nat → Int32) (l : Launch) : AllL L xs l (cL_12 L xs) := by
  refine akL (kl_aload (k0 := 1) (.inr (.inl ⟨rfl, rfl⟩)) (by decide +kernel)) ?_
  refine akL (kl_aload (k0 := 0) (.inl ⟨rfl, rfl⟩) (by decide +kernel)) ?_
  refine akL (kl_iload (k0 := 3) rfl (by decide +kernel)) ?_
  refine akL (kl_const (ins := .iconst 1) (by decide +kernel) (.inl ⟨1, rfl, rfl, by decide⟩)) ?_
  refine akL (kl_iadd (by decide +kernel)) ?_
  refine akL (kl_at (by decide +kernel)) ?_
  refine akL (kl_aload (k0 := 0) (.inl ⟨rfl, rfl⟩) (by decide +kernel)) ?_
  refine akL (kl_iload (k0 := 3) rfl (by decide +kernel)) ?_
  refine akL (kl_const (ins := .iconst 2) (by decide +kernel) (.inl ⟨2, rfl, rfl, by decide⟩)) ?_
  refine akL (kl_iadd (by decide +kernel)) ?_
  refine akL (kl_at (by decide +kernel)) ?_
  refine akL (kl_callF (fun E' h => kF_over h l) qF_over ck10 kd0 iF_over qiF_over qsF_over (by decide) qlF_over (by decide +kernel)) ?_
  refine akL (kl_aload (k0 := 2) (.inr (.inr ⟨rfl, rfl⟩)) (by decide +kernel)) ?_
  refine akL (kl_aload (k0 := 0) (.inl ⟨rfl, rfl⟩) (by decide +kernel)) ?_
  refine akL (kl_iload (k0 := 3) rfl (by decide +kernel)) ?_
  refine akL (kl_const (ins := .iconst 1) (by decide +kernel) (.inl ⟨1, rfl, rfl, by decide⟩)) ?_
  refine akL (kl_iadd (by decide +kernel)) ?_
  refine akL (kl_at (by decide +kernel)) ?_
  refine akL (kl_aload (k0 := 0) (.inl ⟨rfl, rfl⟩) (by decide +kernel)) ?_
  refine akL (kl_iload (k0 := 3) rfl (by decide +kernel)) ?_
  refine akL (kl_const (ins := .iconst 2) (by decide +kernel) (.inl ⟨2, rfl, rfl, by decide⟩)) ?_
  refine akL (kl_iadd (by decide +kernel)) ?_
  refine akL (kl_at (by decide +kernel)) ?_
  refine akL (kl_callK (fun E' h => kK_over h l) qK_over ck11 kd40 iK_over qiK_over qsK_over (by decide) qlK_over (by decide +kernel)) ?_
  refine akL (kl_same (off := 1510) (by decide) (by decide +kernel)) ?_
  exact trivial
set_option maxRecDepth 1000000 in
theorem eL_12 (L : Nat) (xs : Nat → Int32) (K : SL → Option Unit) (i : Int32) (M N : Mem) : runL (cL_12 L xs) K 100 700 (i, [], M, N) = ixx (i + 1) L fun j1 => ixx (i + 2) L fun j2 => (mF_over (xs j1) (xs j2) M).bind fun q3 => ixx (i + 1) L fun j4 => ixx (i + 2) L fun j5 => (mK_over (xs j4) (xs j5) N).bind fun q6 => if q3.1 = q6.1 then K (i, [], q3.2, q6.2) else none := id rfl
theorem gL_12 {L p B : Nat} {xs : Nat → Int32} {M N : Mem} {K : SL → Option Unit} (hL : L ≤ 384) (hp : p + 6 ≤ L) (hB : B < 10000) (h : Rel B M N) (hK : ∀ M' N', Rel (B + 1) M' N' → K (nI p, [], M', N') = some ()) : runL (cL_12 L xs) K 100 700 (nI p, [], M, N) = some () := by
  rw [eL_12]
  have i1 : ∀ F : Nat → Option Unit, ixx (nI p + 1) L F = F (p + 1) := fun F => ixL hL hp (c := 1) (by decide) F
  have i2 : ∀ F : Nat → Option Unit, ixx (nI p + 2) L F = F (p + 2) := fun F => ixL hL hp (c := 2) (by decide) F
  simp only [i1, i2]
  obtain ⟨r, M1, N1, e1, e2, h1⟩ := s_over h (xs (p + 1)) (xs (p + 2))
  rw [e1]
  simp only [Option.bind_some]
  rw [e2]
  simp only [Option.bind_some, if_true]
  exact hK M1 N1 h1
def cL_13 (L : Nat) (xs : Nat → Int32) : List (Nat × StL) := [(733, lA 733 0),
  (734, lA 734 99),
  (735, lI 735),
  (736, lC 736 1 1),
  (737, lBin 737 (fun x y => x + y)),
  (738, lAt 738 L xs),
  (739, lA 739 99),
  (740, lI 740),
  (741, lC 741 1 2),
  (742, lBin 742 (fun x y => x + y)),
  (743, lAt 743 L xs),
  (744, lCallF 744 3 dF_take),
  (747, lA 747 40),
  (748, lA 748 99),
  (749, lI 749),
  (750, lC 750 1 1),
  (751, lBin 751 (fun x y => x + y)),
  (752, lAt 752 L xs),
  (753, lA 753 99),
  (754, lI 754),
  (755, lC 755 1 2),
  (756, lBin 756 (fun x y => x + y)),
  (757, lAt 757 L xs),
  (758, lCallK 758 3 dK_take),
  (761, lSame 2238)]
theorem oL_13 (L : Nat) (xs : Nat → Int32) (l : Launch) : AllL L xs l (cL_13 L xs) := by
  refine akL (kl_aload (k0 := 1) (.inr (.inl ⟨rfl, rfl⟩)) (by decide +kernel)) ?_
  refine akL (kl_aload (k0 := 0) (.inl ⟨rfl, rfl⟩) (by decide +kernel)) ?_
  refine akL (kl_iload (k0 := 3) rfl (by decide +kernel)) ?_
  refine akL (kl_const (ins := .iconst 1) (by decide +kernel) (.inl ⟨1, rfl, rfl, by decide⟩)) ?_
  refine akL (kl_iadd (by decide +kernel)) ?_
  refine akL (kl_at (by decide +kernel)) ?_
  refine akL (kl_aload (k0 := 0) (.inl ⟨rfl, rfl⟩) (by decide +kernel)) ?_
  refine akL (kl_iload (k0 := 3) rfl (by decide +kernel)) ?_
  refine akL (kl_const (ins := .iconst 2) (by decide +kernel) (.inl ⟨2, rfl, rfl, by decide⟩)) ?_
  refine akL (kl_iadd (by decide +kernel)) ?_
  refine akL (kl_at (by decide +kernel)) ?_
  refine akL (kl_callF (fun E' h => kF_take h l) qF_take ck10 kd0 iF_take qiF_take qsF_take (by decide) qlF_take (by decide +kernel)) ?_
  refine akL (kl_aload (k0 := 2) (.inr (.inr ⟨rfl, rfl⟩)) (by decide +kernel)) ?_
  refine akL (kl_aload (k0 := 0) (.inl ⟨rfl, rfl⟩) (by decide +kernel)) ?_
  refine akL (kl_iload (k0 := 3) rfl (by decide +kernel)) ?_
  refine akL (kl_const (ins := .iconst 1) (by decide +kernel) (.inl ⟨1, rfl, rfl, by decide⟩)) ?_
  refine akL (kl_iadd (by decide +kernel)) ?_
  refine akL (kl_at (by decide +kernel)) ?_
  refine akL (kl_aload (k0 := 0) (.inl ⟨rfl, rfl⟩) (by decide +kernel)) ?_
  refine akL (kl_iload (k0 := 3) rfl (by decide +kernel)) ?_
  refine akL (kl_const (ins := .iconst 2) (by decide +kernel) (.inl ⟨2, rfl, rfl, by decide⟩)) ?_
  refine akL (kl_iadd (by decide +kernel)) ?_
  refine akL (kl_at (by decide +kernel)) ?_
  refine akL (kl_callK (fun E' h => kK_take h l) qK_take ck11 kd40 iK_take qiK_take qsK_take (by decide) qlK_take (by decide +kernel)) ?_
  refine akL (kl_same (off := 1477) (by decide) (by decide +kernel)) ?_
  exact trivial
set_option maxRecDepth 1000000 in
theorem eL_13 (L : Nat) (xs : Nat → Int32) (K : SL → Option Unit) (i : Int32) (M N : Mem) : runL (cL_13 L xs) K 100 733 (i, [], M, N) = ixx (i + 1) L fun j1 => ixx (i + 2) L fun j2 => (mF_take (xs j1) (xs j2) M).bind fun q3 => ixx (i + 1) L fun j4 => ixx (i + 2) L fun j5 => (mK_take (xs j4) (xs j5) N).bind fun q6 => if q3.1 = q6.1 then K (i, [], q3.2, q6.2) else none := id rfl
theorem gL_13 {L p B : Nat} {xs : Nat → Int32} {M N : Mem} {K : SL → Option Unit} (hL : L ≤ 384) (hp : p + 6 ≤ L) (hB : B < 10000) (h : Rel B M N) (hK : ∀ M' N', Rel (B + 1) M' N' → K (nI p, [], M', N') = some ()) : runL (cL_13 L xs) K 100 733 (nI p, [], M, N) = some () := by
  rw [eL_13]
  have i1 : ∀ F : Nat → Option Unit, ixx (nI p + 1) L F = F (p + 1) := fun F => ixL hL hp (c := 1) (by decide) F
  have i2 : ∀ F : Nat → Option Unit, ixx (nI p + 2) L F = F (p + 2) := fun F => ixL hL hp (c := 2) (by decide) F
  simp only [i1, i2]
  obtain ⟨r, M1, N1, e1, e2, h1⟩ := s_take h (xs (p + 1)) (xs (p + 2))
  rw [e1]
  simp only [Option.bind_some]
  rw [e2]
  simp only [Option.bind_some, if_true]
  exact hK M1 N1 h1
def cL_14 (L : Nat) (xs : Nat → Int32) : List (Nat × StL) := [(766, lA 766 0),
  (767, lA 767 99),
  (768, lI 768),
  (769, lC 769 1 1),
  (770, lBin 770 (fun x y => x + y)),
  (771, lAt 771 L xs),
  (772, lI2L 772),
  (773, lC 773 2 32),
  (775, lShl 775),
  (776, lA 776 99),
  (777, lI 777),
  (778, lC 778 1 2),
  (779, lBin 779 (fun x y => x + y)),
  (780, lAt 780 L xs),
  (781, lI2L 781),
  (782, lCL 782 4294967295),
  (785, lBinL 785 (fun x y => x &&& y)),
  (786, lBinL 786 (fun x y => x ||| y)),
  (787, lA 787 99),
  (788, lI 788),
  (789, lC 789 1 3),
  (790, lBin 790 (fun x y => x + y)),
  (791, lAt 791 L xs),
  (792, lCallF 792 3 dF_feed),
  (795, lA 795 40),
  (796, lA 796 99),
  (797, lI 797),
  (798, lC 798 1 1),
  (799, lBin 799 (fun x y => x + y)),
  (800, lAt 800 L xs),
  (801, lI2L 801),
  (802, lC 802 2 32),
  (804, lShl 804),
  (805, lA 805 99),
  (806, lI 806),
  (807, lC 807 1 2),
  (808, lBin 808 (fun x y => x + y)),
  (809, lAt 809 L xs),
  (810, lI2L 810),
  (811, lCL 811 4294967295),
  (814, lBinL 814 (fun x y => x &&& y)),
  (815, lBinL 815 (fun x y => x ||| y)),
  (816, lA 816 99),
  (817, lI 817),
  (818, lC 818 1 3),
  (819, lBin 819 (fun x y => x + y)),
  (820, lAt 820 L xs),
  (821, lCallK 821 3 dK_feed),
  (824, lSame 2238)]
theorem oL_14 (L : Nat) (xs : Nat → Int32) (l : Launch) : AllL L xs l (cL_14 L xs) := by
  refine akL (kl_aload (k0 := 1) (.inr (.inl ⟨rfl, rfl⟩)) (by decide +kernel)) ?_
  refine akL (kl_aload (k0 := 0) (.inl ⟨rfl, rfl⟩) (by decide +kernel)) ?_
  refine akL (kl_iload (k0 := 3) rfl (by decide +kernel)) ?_
  refine akL (kl_const (ins := .iconst 1) (by decide +kernel) (.inl ⟨1, rfl, rfl, by decide⟩)) ?_
  refine akL (kl_iadd (by decide +kernel)) ?_
  refine akL (kl_at (by decide +kernel)) ?_
  refine akL (kl_i2l (by decide +kernel)) ?_
  refine akL (kl_const (ins := .bipush 32) (by decide +kernel) (.inr ⟨32, rfl, rfl, by decide⟩)) ?_
  refine akL (kl_lshl (by decide +kernel)) ?_
  refine akL (kl_aload (k0 := 0) (.inl ⟨rfl, rfl⟩) (by decide +kernel)) ?_
  refine akL (kl_iload (k0 := 3) rfl (by decide +kernel)) ?_
  refine akL (kl_const (ins := .iconst 2) (by decide +kernel) (.inl ⟨2, rfl, rfl, by decide⟩)) ?_
  refine akL (kl_iadd (by decide +kernel)) ?_
  refine akL (kl_at (by decide +kernel)) ?_
  refine akL (kl_i2l (by decide +kernel)) ?_
  refine akL (kl_ldc2 (tb_sub qc_71) (by decide +kernel)) ?_
  refine akL (kl_land (by decide +kernel)) ?_
  refine akL (kl_lor (by decide +kernel)) ?_
  refine akL (kl_aload (k0 := 0) (.inl ⟨rfl, rfl⟩) (by decide +kernel)) ?_
  refine akL (kl_iload (k0 := 3) rfl (by decide +kernel)) ?_
  refine akL (kl_const (ins := .iconst 3) (by decide +kernel) (.inl ⟨3, rfl, rfl, by decide⟩)) ?_
  refine akL (kl_iadd (by decide +kernel)) ?_
  refine akL (kl_at (by decide +kernel)) ?_
  refine akL (kl_callF (fun E' h => kF_feed h l) qF_feed ck10 kd0 iF_feed qiF_feed qsF_feed (by decide) qlF_feed (by decide +kernel)) ?_
  refine akL (kl_aload (k0 := 2) (.inr (.inr ⟨rfl, rfl⟩)) (by decide +kernel)) ?_
  refine akL (kl_aload (k0 := 0) (.inl ⟨rfl, rfl⟩) (by decide +kernel)) ?_
  refine akL (kl_iload (k0 := 3) rfl (by decide +kernel)) ?_
  refine akL (kl_const (ins := .iconst 1) (by decide +kernel) (.inl ⟨1, rfl, rfl, by decide⟩)) ?_
  refine akL (kl_iadd (by decide +kernel)) ?_
  refine akL (kl_at (by decide +kernel)) ?_
  refine akL (kl_i2l (by decide +kernel)) ?_
  refine akL (kl_const (ins := .bipush 32) (by decide +kernel) (.inr ⟨32, rfl, rfl, by decide⟩)) ?_
  refine akL (kl_lshl (by decide +kernel)) ?_
  refine akL (kl_aload (k0 := 0) (.inl ⟨rfl, rfl⟩) (by decide +kernel)) ?_
  refine akL (kl_iload (k0 := 3) rfl (by decide +kernel)) ?_
  refine akL (kl_const (ins := .iconst 2) (by decide +kernel) (.inl ⟨2, rfl, rfl, by decide⟩)) ?_
  refine akL (kl_iadd (by decide +kernel)) ?_
  refine akL (kl_at (by decide +kernel)) ?_
  refine akL (kl_i2l (by decide +kernel)) ?_
  refine akL (kl_ldc2 (tb_sub qc_71) (by decide +kernel)) ?_
  refine akL (kl_land (by decide +kernel)) ?_
  refine akL (kl_lor (by decide +kernel)) ?_
  refine akL (kl_aload (k0 := 0) (.inl ⟨rfl, rfl⟩) (by decide +kernel)) ?_
  refine akL (kl_iload (k0 := 3) rfl (by decide +kernel)) ?_
  refine akL (kl_const (ins := .iconst 3) (by decide +kernel) (.inl ⟨3, rfl, rfl, by decide⟩)) ?_
  refine akL (kl_iadd (by decide +kernel)) ?_
  refine akL (kl_at (by decide +kernel)) ?_
  refine akL (kl_callK (fun E' h => kK_feed h l) qK_feed ck11 kd40 iK_feed qiK_feed qsK_feed (by decide) qlK_feed (by decide +kernel)) ?_
  refine akL (kl_same (off := 1414) (by decide) (by decide +kernel)) ?_
  exact trivial
set_option maxRecDepth 1000000 in
theorem eL_14 (L : Nat) (xs : Nat → Int32) (K : SL → Option Unit) (i : Int32) (M N : Mem) : runL (cL_14 L xs) K 100 766 (i, [], M, N) = ixx (i + 1) L fun j1 => ixx (i + 2) L fun j2 => ixx (i + 3) L fun j3 => (mF_feed (((Int32.toInt64 (xs j1)) <<< (Int32.toInt64 32 &&& 63)) ||| ((Int32.toInt64 (xs j2)) &&& 4294967295)) (xs j3) M).bind fun q4 => ixx (i + 1) L fun j5 => ixx (i + 2) L fun j6 => ixx (i + 3) L fun j7 => (mK_feed (((Int32.toInt64 (xs j5)) <<< (Int32.toInt64 32 &&& 63)) ||| ((Int32.toInt64 (xs j6)) &&& 4294967295)) (xs j7) N).bind fun q8 => if q4.1 = q8.1 then K (i, [], q4.2, q8.2) else none := id rfl
theorem gL_14 {L p B : Nat} {xs : Nat → Int32} {M N : Mem} {K : SL → Option Unit} (hL : L ≤ 384) (hp : p + 6 ≤ L) (hB : B < 10000) (h : Rel B M N) (hK : ∀ M' N', Rel (B + 1) M' N' → K (nI p, [], M', N') = some ()) : runL (cL_14 L xs) K 100 766 (nI p, [], M, N) = some () := by
  rw [eL_14]
  have i1 : ∀ F : Nat → Option Unit, ixx (nI p + 1) L F = F (p + 1) := fun F => ixL hL hp (c := 1) (by decide) F
  have i2 : ∀ F : Nat → Option Unit, ixx (nI p + 2) L F = F (p + 2) := fun F => ixL hL hp (c := 2) (by decide) F
  have i3 : ∀ F : Nat → Option Unit, ixx (nI p + 3) L F = F (p + 3) := fun F => ixL hL hp (c := 3) (by decide) F
  simp only [i1, i2, i3]
  obtain ⟨r, M1, N1, e1, e2, h1⟩ := s_feed h ((Int32.toInt64 (xs (p + 1)) <<< (Int32.toInt64 32 &&& 63)) ||| (Int32.toInt64 (xs (p + 2)) &&& 4294967295)) (xs (p + 3))
  rw [e1]
  simp only [Option.bind_some]
  rw [e2]
  simp only [Option.bind_some, if_true]
  exact hK M1 N1 h1
def cL_15 (L : Nat) (xs : Nat → Int32) : List (Nat × StL) := [(829, lA 829 0),
  (830, lA 830 99),
  (831, lI 831),
  (832, lC 832 1 1),
  (833, lBin 833 (fun x y => x + y)),
  (834, lAt 834 L xs),
  (835, lA 835 99),
  (836, lI 836),
  (837, lC 837 1 2),
  (838, lBin 838 (fun x y => x + y)),
  (839, lAt 839 L xs),
  (840, lCallF 840 3 dF_statute),
  (843, lA 843 40),
  (844, lA 844 99),
  (845, lI 845),
  (846, lC 846 1 1),
  (847, lBin 847 (fun x y => x + y)),
  (848, lAt 848 L xs),
  (849, lA 849 99),
  (850, lI 850),
  (851, lC 851 1 2),
  (852, lBin 852 (fun x y => x + y)),
  (853, lAt 853 L xs),
  (854, lCallK 854 3 dK_statute),
  (857, lSame 2238)]
theorem oL_15 (L : Nat) (xs : Nat → Int32) (l : Launch) : AllL L xs l (cL_15 L xs) := by
  refine akL (kl_aload (k0 := 1) (.inr (.inl ⟨rfl, rfl⟩)) (by decide +kernel)) ?_
  refine akL (kl_aload (k0 := 0) (.inl ⟨rfl, rfl⟩) (by decide +kernel)) ?_
  refine akL (kl_iload (k0 := 3) rfl (by decide +kernel)) ?_
  refine akL (kl_const (ins := .iconst 1) (by decide +kernel) (.inl ⟨1, rfl, rfl, by decide⟩)) ?_
  refine akL (kl_iadd (by decide +kernel)) ?_
  refine akL (kl_at (by decide +kernel)) ?_
  refine akL (kl_aload (k0 := 0) (.inl ⟨rfl, rfl⟩) (by decide +kernel)) ?_
  refine akL (kl_iload (k0 := 3) rfl (by decide +kernel)) ?_
  refine akL (kl_const (ins := .iconst 2) (by decide +kernel) (.inl ⟨2, rfl, rfl, by decide⟩)) ?_
  refine akL (kl_iadd (by decide +kernel)) ?_
  refine akL (kl_at (by decide +kernel)) ?_
  refine akL (kl_callF (fun E' h => kF_statute h l) qF_statute ck10 kd0 iF_statute qiF_statute qsF_statute (by decide) qlF_statute (by decide +kernel)) ?_
  refine akL (kl_aload (k0 := 2) (.inr (.inr ⟨rfl, rfl⟩)) (by decide +kernel)) ?_
  refine akL (kl_aload (k0 := 0) (.inl ⟨rfl, rfl⟩) (by decide +kernel)) ?_
  refine akL (kl_iload (k0 := 3) rfl (by decide +kernel)) ?_
  refine akL (kl_const (ins := .iconst 1) (by decide +kernel) (.inl ⟨1, rfl, rfl, by decide⟩)) ?_
  refine akL (kl_iadd (by decide +kernel)) ?_
  refine akL (kl_at (by decide +kernel)) ?_
  refine akL (kl_aload (k0 := 0) (.inl ⟨rfl, rfl⟩) (by decide +kernel)) ?_
  refine akL (kl_iload (k0 := 3) rfl (by decide +kernel)) ?_
  refine akL (kl_const (ins := .iconst 2) (by decide +kernel) (.inl ⟨2, rfl, rfl, by decide⟩)) ?_
  refine akL (kl_iadd (by decide +kernel)) ?_
  refine akL (kl_at (by decide +kernel)) ?_
  refine akL (kl_callK (fun E' h => kK_statute h l) qK_statute ck11 kd40 iK_statute qiK_statute qsK_statute (by decide) qlK_statute (by decide +kernel)) ?_
  refine akL (kl_same (off := 1381) (by decide) (by decide +kernel)) ?_
  exact trivial
set_option maxRecDepth 1000000 in
theorem eL_15 (L : Nat) (xs : Nat → Int32) (K : SL → Option Unit) (i : Int32) (M N : Mem) : runL (cL_15 L xs) K 100 829 (i, [], M, N) = ixx (i + 1) L fun j1 => ixx (i + 2) L fun j2 => (mF_statute (xs j1) (xs j2) M).bind fun q3 => ixx (i + 1) L fun j4 => ixx (i + 2) L fun j5 => (mK_statute (xs j4) (xs j5) N).bind fun q6 => if q3.1 = q6.1 then K (i, [], q3.2, q6.2) else none := id rfl
theorem gL_15 {L p B : Nat} {xs : Nat → Int32} {M N : Mem} {K : SL → Option Unit} (hL : L ≤ 384) (hp : p + 6 ≤ L) (hB : B < 10000) (h : Rel B M N) (hK : ∀ M' N', Rel (B + 1) M' N' → K (nI p, [], M', N') = some ()) : runL (cL_15 L xs) K 100 829 (nI p, [], M, N) = some () := by
  rw [eL_15]
  have i1 : ∀ F : Nat → Option Unit, ixx (nI p + 1) L F = F (p + 1) := fun F => ixL hL hp (c := 1) (by decide) F
  have i2 : ∀ F : Nat → Option Unit, ixx (nI p + 2) L F = F (p + 2) := fun F => ixL hL hp (c := 2) (by decide) F
  simp only [i1, i2]
  obtain ⟨r, M1, N1, e1, e2, h1⟩ := s_statute h (xs (p + 1)) (xs (p + 2))
  rw [e1]
  simp only [Option.bind_some]
  rw [e2]
  simp only [Option.bind_some, if_true]
  exact hK M1 N1 h1
def cL_16 (L : Nat) (xs : Nat → Int32) : List (Nat × StL) := [(862, lA 862 0),
  (863, lA 863 99),
  (864, lI 864),
  (865, lC 865 1 1),
  (866, lBin 866 (fun x y => x + y)),
  (867, lAt 867 L xs),
  (868, lA 868 99),
  (869, lI 869),
  (870, lC 870 1 2),
  (871, lBin 871 (fun x y => x + y)),
  (872, lAt 872 L xs),
  (873, lCallF 873 3 dF_force),
  (876, lA 876 40),
  (877, lA 877 99),
  (878, lI 878),
  (879, lC 879 1 1),
  (880, lBin 880 (fun x y => x + y)),
  (881, lAt 881 L xs),
  (882, lA 882 99),
  (883, lI 883),
  (884, lC 884 1 2),
  (885, lBin 885 (fun x y => x + y)),
  (886, lAt 886 L xs),
  (887, lCallK 887 3 dK_force),
  (890, lSame 2238)]
theorem oL_16 (L : Nat) (xs : Nat → Int32) (l : Launch) : AllL L xs l (cL_16 L xs) := by
  refine akL (kl_aload (k0 := 1) (.inr (.inl ⟨rfl, rfl⟩)) (by decide +kernel)) ?_
  refine akL (kl_aload (k0 := 0) (.inl ⟨rfl, rfl⟩) (by decide +kernel)) ?_
  refine akL (kl_iload (k0 := 3) rfl (by decide +kernel)) ?_
  refine akL (kl_const (ins := .iconst 1) (by decide +kernel) (.inl ⟨1, rfl, rfl, by decide⟩)) ?_
  refine akL (kl_iadd (by decide +kernel)) ?_
  refine akL (kl_at (by decide +kernel)) ?_
  refine akL (kl_aload (k0 := 0) (.inl ⟨rfl, rfl⟩) (by decide +kernel)) ?_
  refine akL (kl_iload (k0 := 3) rfl (by decide +kernel)) ?_
  refine akL (kl_const (ins := .iconst 2) (by decide +kernel) (.inl ⟨2, rfl, rfl, by decide⟩)) ?_
  refine akL (kl_iadd (by decide +kernel)) ?_
  refine akL (kl_at (by decide +kernel)) ?_
  refine akL (kl_callF (fun E' h => kF_force h l) qF_force ck10 kd0 iF_force qiF_force qsF_force (by decide) qlF_force (by decide +kernel)) ?_
  refine akL (kl_aload (k0 := 2) (.inr (.inr ⟨rfl, rfl⟩)) (by decide +kernel)) ?_
  refine akL (kl_aload (k0 := 0) (.inl ⟨rfl, rfl⟩) (by decide +kernel)) ?_
  refine akL (kl_iload (k0 := 3) rfl (by decide +kernel)) ?_
  refine akL (kl_const (ins := .iconst 1) (by decide +kernel) (.inl ⟨1, rfl, rfl, by decide⟩)) ?_
  refine akL (kl_iadd (by decide +kernel)) ?_
  refine akL (kl_at (by decide +kernel)) ?_
  refine akL (kl_aload (k0 := 0) (.inl ⟨rfl, rfl⟩) (by decide +kernel)) ?_
  refine akL (kl_iload (k0 := 3) rfl (by decide +kernel)) ?_
  refine akL (kl_const (ins := .iconst 2) (by decide +kernel) (.inl ⟨2, rfl, rfl, by decide⟩)) ?_
  refine akL (kl_iadd (by decide +kernel)) ?_
  refine akL (kl_at (by decide +kernel)) ?_
  refine akL (kl_callK (fun E' h => kK_force h l) qK_force ck11 kd40 iK_force qiK_force qsK_force (by decide) qlK_force (by decide +kernel)) ?_
  refine akL (kl_same (off := 1348) (by decide) (by decide +kernel)) ?_
  exact trivial
set_option maxRecDepth 1000000 in
theorem eL_16 (L : Nat) (xs : Nat → Int32) (K : SL → Option Unit) (i : Int32) (M N : Mem) : runL (cL_16 L xs) K 100 862 (i, [], M, N) = ixx (i + 1) L fun j1 => ixx (i + 2) L fun j2 => (mF_force (xs j1) (xs j2) M).bind fun q3 => ixx (i + 1) L fun j4 => ixx (i + 2) L fun j5 => (mK_force (xs j4) (xs j5) N).bind fun q6 => if q3.1 = q6.1 then K (i, [], q3.2, q6.2) else none := id rfl
theorem gL_16 {L p B : Nat} {xs : Nat → Int32} {M N : Mem} {K : SL → Option Unit} (hL : L ≤ 384) (hp : p + 6 ≤ L) (hB : B < 10000) (h : Rel B M N) (hK : ∀ M' N', Rel (B + 1) M' N' → K (nI p, [], M', N') = some ()) : runL (cL_16 L xs) K 100 862 (nI p, [], M, N) = some () := by
  rw [eL_16]
  have i1 : ∀ F : Nat → Option Unit, ixx (nI p + 1) L F = F (p + 1) := fun F => ixL hL hp (c := 1) (by decide) F
  have i2 : ∀ F : Nat → Option Unit, ixx (nI p + 2) L F = F (p + 2) := fun F => ixL hL hp (c := 2) (by decide) F
  simp only [i1, i2]
  obtain ⟨r, M1, N1, e1, e2, h1⟩ := s_force h (xs (p + 1)) (xs (p + 2))
  rw [e1]
  simp only [Option.bind_some]
  rw [e2]
  simp only [Option.bind_some, if_true]
  exact hK M1 N1 h1
def cL_17 (L : Nat) (xs : Nat → Int32) : List (Nat × StL) := [(895, lA 895 0),
  (896, lA 896 99),
  (897, lI 897),
  (898, lC 898 1 1),
  (899, lBin 899 (fun x y => x + y)),
  (900, lAt 900 L xs),
  (901, lA 901 99),
  (902, lI 902),
  (903, lC 903 1 2),
  (904, lBin 904 (fun x y => x + y)),
  (905, lAt 905 L xs),
  (906, lA 906 99),
  (907, lI 907),
  (908, lC 908 1 3),
  (909, lBin 909 (fun x y => x + y)),
  (910, lAt 910 L xs),
  (911, lA 911 99),
  (912, lI 912),
  (913, lC 913 1 4),
  (914, lBin 914 (fun x y => x + y)),
  (915, lAt 915 L xs),
  (916, lCallF 916 5 dF_says),
  (919, lA 919 40),
  (920, lA 920 99),
  (921, lI 921),
  (922, lC 922 1 1),
  (923, lBin 923 (fun x y => x + y)),
  (924, lAt 924 L xs),
  (925, lA 925 99),
  (926, lI 926),
  (927, lC 927 1 2),
  (928, lBin 928 (fun x y => x + y)),
  (929, lAt 929 L xs),
  (930, lA 930 99),
  (931, lI 931),
  (932, lC 932 1 3),
  (933, lBin 933 (fun x y => x + y)),
  (934, lAt 934 L xs),
  (935, lA 935 99),
  (936, lI 936),
  (937, lC 937 1 4),
  (938, lBin 938 (fun x y => x + y)),
  (939, lAt 939 L xs),
  (940, lCallK 940 5 dK_says),
  (943, lSame 2238)]
theorem oL_17 (L : Nat) (xs : Nat → Int32) (l : Launch) : AllL L xs l (cL_17 L xs) := by
  refine akL (kl_aload (k0 := 1) (.inr (.inl ⟨rfl, rfl⟩)) (by decide +kernel)) ?_
  refine akL (kl_aload (k0 := 0) (.inl ⟨rfl, rfl⟩) (by decide +kernel)) ?_
  refine akL (kl_iload (k0 := 3) rfl (by decide +kernel)) ?_
  refine akL (kl_const (ins := .iconst 1) (by decide +kernel) (.inl ⟨1, rfl, rfl, by decide⟩)) ?_
  refine akL (kl_iadd (by decide +kernel)) ?_
  refine akL (kl_at (by decide +kernel)) ?_
  refine akL (kl_aload (k0 := 0) (.inl ⟨rfl, rfl⟩) (by decide +kernel)) ?_
  refine akL (kl_iload (k0 := 3) rfl (by decide +kernel)) ?_
  refine akL (kl_const (ins := .iconst 2) (by decide +kernel) (.inl ⟨2, rfl, rfl, by decide⟩)) ?_
  refine akL (kl_iadd (by decide +kernel)) ?_
  refine akL (kl_at (by decide +kernel)) ?_
  refine akL (kl_aload (k0 := 0) (.inl ⟨rfl, rfl⟩) (by decide +kernel)) ?_
  refine akL (kl_iload (k0 := 3) rfl (by decide +kernel)) ?_
  refine akL (kl_const (ins := .iconst 3) (by decide +kernel) (.inl ⟨3, rfl, rfl, by decide⟩)) ?_
  refine akL (kl_iadd (by decide +kernel)) ?_
  refine akL (kl_at (by decide +kernel)) ?_
  refine akL (kl_aload (k0 := 0) (.inl ⟨rfl, rfl⟩) (by decide +kernel)) ?_
  refine akL (kl_iload (k0 := 3) rfl (by decide +kernel)) ?_
  refine akL (kl_const (ins := .iconst 4) (by decide +kernel) (.inl ⟨4, rfl, rfl, by decide⟩)) ?_
  refine akL (kl_iadd (by decide +kernel)) ?_
  refine akL (kl_at (by decide +kernel)) ?_
  refine akL (kl_callF (fun E' h => kF_says h l) qF_says ck10 kd0 iF_says qiF_says qsF_says (by decide) qlF_says (by decide +kernel)) ?_
  refine akL (kl_aload (k0 := 2) (.inr (.inr ⟨rfl, rfl⟩)) (by decide +kernel)) ?_
  refine akL (kl_aload (k0 := 0) (.inl ⟨rfl, rfl⟩) (by decide +kernel)) ?_
  refine akL (kl_iload (k0 := 3) rfl (by decide +kernel)) ?_
  refine akL (kl_const (ins := .iconst 1) (by decide +kernel) (.inl ⟨1, rfl, rfl, by decide⟩)) ?_
  refine akL (kl_iadd (by decide +kernel)) ?_
  refine akL (kl_at (by decide +kernel)) ?_
  refine akL (kl_aload (k0 := 0) (.inl ⟨rfl, rfl⟩) (by decide +kernel)) ?_
  refine akL (kl_iload (k0 := 3) rfl (by decide +kernel)) ?_
  refine akL (kl_const (ins := .iconst 2) (by decide +kernel) (.inl ⟨2, rfl, rfl, by decide⟩)) ?_
  refine akL (kl_iadd (by decide +kernel)) ?_
  refine akL (kl_at (by decide +kernel)) ?_
  refine akL (kl_aload (k0 := 0) (.inl ⟨rfl, rfl⟩) (by decide +kernel)) ?_
  refine akL (kl_iload (k0 := 3) rfl (by decide +kernel)) ?_
  refine akL (kl_const (ins := .iconst 3) (by decide +kernel) (.inl ⟨3, rfl, rfl, by decide⟩)) ?_
  refine akL (kl_iadd (by decide +kernel)) ?_
  refine akL (kl_at (by decide +kernel)) ?_
  refine akL (kl_aload (k0 := 0) (.inl ⟨rfl, rfl⟩) (by decide +kernel)) ?_
  refine akL (kl_iload (k0 := 3) rfl (by decide +kernel)) ?_
  refine akL (kl_const (ins := .iconst 4) (by decide +kernel) (.inl ⟨4, rfl, rfl, by decide⟩)) ?_
  refine akL (kl_iadd (by decide +kernel)) ?_
  refine akL (kl_at (by decide +kernel)) ?_
  refine akL (kl_callK (fun E' h => kK_says h l) qK_says ck11 kd40 iK_says qiK_says qsK_says (by decide) qlK_says (by decide +kernel)) ?_
  refine akL (kl_same (off := 1295) (by decide) (by decide +kernel)) ?_
  exact trivial
set_option maxRecDepth 1000000 in
theorem eL_17 (L : Nat) (xs : Nat → Int32) (K : SL → Option Unit) (i : Int32) (M N : Mem) : runL (cL_17 L xs) K 100 895 (i, [], M, N) = ixx (i + 1) L fun j1 => ixx (i + 2) L fun j2 => ixx (i + 3) L fun j3 => ixx (i + 4) L fun j4 => (mF_says (xs j1) (xs j2) (xs j3) (xs j4) M).bind fun q5 => ixx (i + 1) L fun j6 => ixx (i + 2) L fun j7 => ixx (i + 3) L fun j8 => ixx (i + 4) L fun j9 => (mK_says (xs j6) (xs j7) (xs j8) (xs j9) N).bind fun q10 => if q5.1 = q10.1 then K (i, [], q5.2, q10.2) else none := id rfl
theorem gL_17 {L p B : Nat} {xs : Nat → Int32} {M N : Mem} {K : SL → Option Unit} (hL : L ≤ 384) (hp : p + 6 ≤ L) (hB : B < 10000) (h : Rel B M N) (hK : ∀ M' N', Rel (B + 1) M' N' → K (nI p, [], M', N') = some ()) : runL (cL_17 L xs) K 100 895 (nI p, [], M, N) = some () := by
  rw [eL_17]
  have i1 : ∀ F : Nat → Option Unit, ixx (nI p + 1) L F = F (p + 1) := fun F => ixL hL hp (c := 1) (by decide) F
  have i2 : ∀ F : Nat → Option Unit, ixx (nI p + 2) L F = F (p + 2) := fun F => ixL hL hp (c := 2) (by decide) F
  have i3 : ∀ F : Nat → Option Unit, ixx (nI p + 3) L F = F (p + 3) := fun F => ixL hL hp (c := 3) (by decide) F
  have i4 : ∀ F : Nat → Option Unit, ixx (nI p + 4) L F = F (p + 4) := fun F => ixL hL hp (c := 4) (by decide) F
  simp only [i1, i2, i3, i4]
  obtain ⟨r, M1, N1, e1, e2, h1⟩ := s_says h (xs (p + 1)) (xs (p + 2)) (xs (p + 3)) (xs (p + 4))
  rw [e1]
  simp only [Option.bind_some]
  rw [e2]
  simp only [Option.bind_some, if_true]
  exact hK M1 N1 h1
