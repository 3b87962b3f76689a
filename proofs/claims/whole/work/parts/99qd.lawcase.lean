/-! ===== the law, case by case ===== -/
def cL_18 (L : Nat) (xs : Nat → Int32) : List (Nat × StL) := [(948, lA 948 0),
  (949, lA 949 99),
  (950, lI 950),
  (951, lC 951 1 1),
  (952, lBin 952 (fun x y => x + y)),
  (953, lAt 953 L xs),
  (954, lA 954 99),
  (955, lI 955),
  (956, lC 956 1 2),
  (957, lBin 957 (fun x y => x + y)),
  (958, lAt 958 L xs),
  (959, lA 959 99),
  (960, lI 960),
  (961, lC 961 1 3),
  (962, lBin 962 (fun x y => x + y)),
  (963, lAt 963 L xs),
  (964, lA 964 99),
  (965, lI 965),
  (966, lC 966 1 4),
  (967, lBin 967 (fun x y => x + y)),
  (968, lAt 968 L xs),
  (969, lCallF 969 5 dF_contract),
  (972, lA 972 40),
  (973, lA 973 99),
  (974, lI 974),
  (975, lC 975 1 1),
  (976, lBin 976 (fun x y => x + y)),
  (977, lAt 977 L xs),
  (978, lA 978 99),
  (979, lI 979),
  (980, lC 980 1 2),
  (981, lBin 981 (fun x y => x + y)),
  (982, lAt 982 L xs),
  (983, lA 983 99),
  (984, lI 984),
  (985, lC 985 1 3),
  (986, lBin 986 (fun x y => x + y)),
  (987, lAt 987 L xs),
  (988, lA 988 99),
  (989, lI 989),
  (990, lC 990 1 4),
  (991, lBin 991 (fun x y => x + y)),
  (992, lAt 992 L xs),
  (993, lCallK 993 5 dK_contract),
  (996, lSame 2238)]
theorem oL_18 (L : Nat) (xs : Nat → Int32) (l : Launch) : AllL L xs l (cL_18 L xs) := by
  refine akL (kl_aload (k0 := 1) (.inr (.inl ⟨rfl, rfl⟩)) (by decide +kernel)) ?_
  refine akL (kl_aload (k0 := 0) (.inl ⟨rfl, rfl⟩) (by decide +kernel)) ?_
  refine akL (kl_iload (k0 := 3) rfl (by decide +kernel)) ?_
  refine akL (kl_const (ins := .iconst 1) (by decide +kernel) (.inl ⟨1, rfl, rfl, by decide⟩)) ?_
  refine akL (kl_iadd (by decide +kernel)) ?_
  refine akL (kl_at (by decide +kernel)) ?_
  refine akL (kl_aload (k0 := 0) (.inl ⟨rfl, rfl⟩) (by decide +kernel)) ?_
  refine akL (kl_iload (k0 := 3) rfl (by decide +kernel)) ?_
  refine akL (kl_const (ins := .iconst 2) (by decide +kernel) (.inl ⟨2, rfl, rfl, by decide⟩)) ?_
  refine akL (kl_iadd (by decide +kernel)) ?_
  refine akL (kl_at (by decide +kernel)) ?_
  refine akL (kl_aload (k0 := 0) (.inl ⟨rfl, rfl⟩) (by decide +kernel)) ?_
  refine akL (kl_iload (k0 := 3) rfl (by decide +kernel)) ?_
  refine akL (kl_const (ins := .iconst 3) (by decide +kernel) (.inl ⟨3, rfl, rfl, by decide⟩)) ?_
  refine akL (kl_iadd (by decide +kernel)) ?_
  refine akL (kl_at (by decide +kernel)) ?_
  refine akL (kl_aload (k0 := 0) (.inl ⟨rfl, rfl⟩) (by decide +kernel)) ?_
  refine akL (kl_iload (k0 := 3) rfl (by decide +kernel)) ?_
  refine akL (kl_const (ins := .iconst 4) (by decide +kernel) (.inl ⟨4, rfl, rfl, by decide⟩)) ?_
  refine akL (kl_iadd (by decide +kernel)) ?_
  refine akL (kl_at (by decide +kernel)) ?_
  refine akL (kl_callF (fun E' h => kF_contract h l) qF_contract ck10 kd0 iF_contract qiF_contract qsF_contract (by decide) qlF_contract (by decide +kernel)) ?_
  refine akL (kl_aload (k0 := 2) (.inr (.inr ⟨rfl, rfl⟩)) (by decide +kernel)) ?_
  refine akL (kl_aload (k0 := 0) (.inl ⟨rfl, rfl⟩) (by decide +kernel)) ?_
  refine akL (kl_iload (k0 := 3) rfl (by decide +kernel)) ?_
  refine akL (kl_const (ins := .iconst 1) (by decide +kernel) (.inl ⟨1, rfl, rfl, by decide⟩)) ?_
  refine akL (kl_iadd (by decide +kernel)) ?_
  refine akL (kl_at (by decide +kernel)) ?_
  refine akL (kl_aload (k0 := 0) (.inl ⟨rfl, rfl⟩) (by decide +kernel)) ?_
  refine akL (kl_iload (k0 := 3) rfl (by decide +kernel)) ?_
  refine akL (kl_const (ins := .iconst 2) (by decide +kernel) (.inl ⟨2, rfl, rfl, by decide⟩)) ?_
  refine akL (kl_iadd (by decide +kernel)) ?_
  refine akL (kl_at (by decide +kernel)) ?_
  refine akL (kl_aload (k0 := 0) (.inl ⟨rfl, rfl⟩) (by decide +kernel)) ?_
  refine akL (kl_iload (k0 := 3) rfl (by decide +kernel)) ?_
  refine akL (kl_const (ins := .iconst 3) (by decide +kernel) (.inl ⟨3, rfl, rfl, by decide⟩)) ?_
  refine akL (kl_iadd (by decide +kernel)) ?_
  refine akL (kl_at (by decide +kernel)) ?_
  refine akL (kl_aload (k0 := 0) (.inl ⟨rfl, rfl⟩) (by decide +kernel)) ?_
  refine akL (kl_iload (k0 := 3) rfl (by decide +kernel)) ?_
  refine akL (kl_const (ins := .iconst 4) (by decide +kernel) (.inl ⟨4, rfl, rfl, by decide⟩)) ?_
  refine akL (kl_iadd (by decide +kernel)) ?_
  refine akL (kl_at (by decide +kernel)) ?_
  refine akL (kl_callK (fun E' h => kK_contract h l) qK_contract ck11 kd40 iK_contract qiK_contract qsK_contract (by decide) qlK_contract (by decide +kernel)) ?_
  refine akL (kl_same (off := 1242) (by decide) (by decide +kernel)) ?_
  exact trivial
set_option maxRecDepth 1000000 in
theorem eL_18 (L : Nat) (xs : Nat → Int32) (K : SL → Option Unit) (i : Int32) (M N : Mem) : runL (cL_18 L xs) K 100 948 (i, [], M, N) = ixx (i + 1) L fun j1 => ixx (i + 2) L fun j2 => ixx (i + 3) L fun j3 => ixx (i + 4) L fun j4 => (mF_contract (xs j1) (xs j2) (xs j3) (xs j4) M).bind fun q5 => ixx (i + 1) L fun j6 => ixx (i + 2) L fun j7 => ixx (i + 3) L fun j8 => ixx (i + 4) L fun j9 => (mK_contract (xs j6) (xs j7) (xs j8) (xs j9) N).bind fun q10 => if q5.1 = q10.1 then K (i, [], q5.2, q10.2) else none := id rfl
theorem gL_18 {L p B : Nat} {xs : Nat → Int32} {M N : Mem} {K : SL → Option Unit} (hL : L ≤ 384) (hp : p + 6 ≤ L) (hB : B < 10000) (h : Rel B M N) (hK : ∀ M' N', Rel (B + 1) M' N' → K (nI p, [], M', N') = some ()) : runL (cL_18 L xs) K 100 948 (nI p, [], M, N) = some () := by
  rw [eL_18]
  have i1 : ∀ F : Nat → Option Unit, ixx (nI p + 1) L F = F (p + 1) := fun F => ixL hL hp (c := 1) (by decide) F
  have i2 : ∀ F : Nat → Option Unit, ixx (nI p + 2) L F = F (p + 2) := fun F => ixL hL hp (c := 2) (by decide) F
  have i3 : ∀ F : Nat → Option Unit, ixx (nI p + 3) L F = F (p + 3) := fun F => ixL hL hp (c := 3) (by decide) F
  have i4 : ∀ F : Nat → Option Unit, ixx (nI p + 4) L F = F (p + 4) := fun F => ixL hL hp (c := 4) (by decide) F
  simp only [i1, i2, i3, i4]
  obtain ⟨r, M1, N1, e1, e2, h1⟩ := s_contract h (xs (p + 1)) (xs (p + 2)) (xs (p + 3)) (xs (p + 4))
  rw [e1]
  simp only [Option.bind_some]
  rw [e2]
  simp only [Option.bind_some, if_true]
  exact hK M1 N1 h1
def cL_19 (L : Nat) (xs : Nat → Int32) : List (Nat × StL) := [(1001, lA 1001 0),
  (1002, lA 1002 99),
  (1003, lI 1003),
  (1004, lC 1004 1 1),
  (1005, lBin 1005 (fun x y => x + y)),
  (1006, lAt 1006 L xs),
  (1007, lA 1007 99),
  (1008, lI 1008),
  (1009, lC 1009 1 2),
  (1010, lBin 1010 (fun x y => x + y)),
  (1011, lAt 1011 L xs),
  (1012, lA 1012 99),
  (1013, lI 1013),
  (1014, lC 1014 1 3),
  (1015, lBin 1015 (fun x y => x + y)),
  (1016, lAt 1016 L xs),
  (1017, lCallF 1017 4 dF_renew),
  (1020, lA 1020 40),
  (1021, lA 1021 99),
  (1022, lI 1022),
  (1023, lC 1023 1 1),
  (1024, lBin 1024 (fun x y => x + y)),
  (1025, lAt 1025 L xs),
  (1026, lA 1026 99),
  (1027, lI 1027),
  (1028, lC 1028 1 2),
  (1029, lBin 1029 (fun x y => x + y)),
  (1030, lAt 1030 L xs),
  (1031, lA 1031 99),
  (1032, lI 1032),
  (1033, lC 1033 1 3),
  (1034, lBin 1034 (fun x y => x + y)),
  (1035, lAt 1035 L xs),
  (1036, lCallK 1036 4 dK_renew),
  (1039, lSame 2238)]
theorem oL_19 (L : Nat) (xs : Nat → Int32) (l : Launch) : AllL L xs l (cL_19 L xs) := by
  refine akL (kl_aload (k0 := 1) (.inr (.inl ⟨rfl, rfl⟩)) (by decide +kernel)) ?_
  refine akL (kl_aload (k0 := 0) (.inl ⟨rfl, rfl⟩) (by decide +kernel)) ?_
  refine akL (kl_iload (k0 := 3) rfl (by decide +kernel)) ?_
  refine akL (kl_const (ins := .iconst 1) (by decide +kernel) (.inl ⟨1, rfl, rfl, by decide⟩)) ?_
  refine akL (kl_iadd (by decide +kernel)) ?_
  refine akL (kl_at (by decide +kernel)) ?_
  refine akL (kl_aload (k0 := 0) (.inl ⟨rfl, rfl⟩) (by decide +kernel)) ?_
  refine akL (kl_iload (k0 := 3) rfl (by decide +kernel)) ?_
  refine akL (kl_const (ins := .iconst 2) (by decide +kernel) (.inl ⟨2, rfl, rfl, by decide⟩)) ?_
  refine akL (kl_iadd (by decide +kernel)) ?_
  refine akL (kl_at (by decide +kernel)) ?_
  refine akL (kl_aload (k0 := 0) (.inl ⟨rfl, rfl⟩) (by decide +kernel)) ?_
  refine akL (kl_iload (k0 := 3) rfl (by decide +kernel)) ?_
  refine akL (kl_const (ins := .iconst 3) (by decide +kernel) (.inl ⟨3, rfl, rfl, by decide⟩)) ?_
  refine akL (kl_iadd (by decide +kernel)) ?_
  refine akL (kl_at (by decide +kernel)) ?_
  refine akL (kl_callF (fun E' h => kF_renew h l) qF_renew ck10 kd0 iF_renew qiF_renew qsF_renew (by decide) qlF_renew (by decide +kernel)) ?_
  refine akL (kl_aload (k0 := 2) (.inr (.inr ⟨rfl, rfl⟩)) (by decide +kernel)) ?_
  refine akL (kl_aload (k0 := 0) (.inl ⟨rfl, rfl⟩) (by decide +kernel)) ?_
  refine akL (kl_iload (k0 := 3) rfl (by decide +kernel)) ?_
  refine akL (kl_const (ins := .iconst 1) (by decide +kernel) (.inl ⟨1, rfl, rfl, by decide⟩)) ?_
  refine akL (kl_iadd (by decide +kernel)) ?_
  refine akL (kl_at (by decide +kernel)) ?_
  refine akL (kl_aload (k0 := 0) (.inl ⟨rfl, rfl⟩) (by decide +kernel)) ?_
  refine akL (kl_iload (k0 := 3) rfl (by decide +kernel)) ?_
  refine akL (kl_const (ins := .iconst 2) (by decide +kernel) (.inl ⟨2, rfl, rfl, by decide⟩)) ?_
  refine akL (kl_iadd (by decide +kernel)) ?_
  refine akL (kl_at (by decide +kernel)) ?_
  refine akL (kl_aload (k0 := 0) (.inl ⟨rfl, rfl⟩) (by decide +kernel)) ?_
  refine akL (kl_iload (k0 := 3) rfl (by decide +kernel)) ?_
  refine akL (kl_const (ins := .iconst 3) (by decide +kernel) (.inl ⟨3, rfl, rfl, by decide⟩)) ?_
  refine akL (kl_iadd (by decide +kernel)) ?_
  refine akL (kl_at (by decide +kernel)) ?_
  refine akL (kl_callK (fun E' h => kK_renew h l) qK_renew ck11 kd40 iK_renew qiK_renew qsK_renew (by decide) qlK_renew (by decide +kernel)) ?_
  refine akL (kl_same (off := 1199) (by decide) (by decide +kernel)) ?_
  exact trivial
set_option maxRecDepth 1000000 in
theorem eL_19 (L : Nat) (xs : Nat → Int32) (K : SL → Option Unit) (i : Int32) (M N : Mem) : runL (cL_19 L xs) K 100 1001 (i, [], M, N) = ixx (i + 1) L fun j1 => ixx (i + 2) L fun j2 => ixx (i + 3) L fun j3 => (mF_renew (xs j1) (xs j2) (xs j3) M).bind fun q4 => ixx (i + 1) L fun j5 => ixx (i + 2) L fun j6 => ixx (i + 3) L fun j7 => (mK_renew (xs j5) (xs j6) (xs j7) N).bind fun q8 => if q4.1 = q8.1 then K (i, [], q4.2, q8.2) else none := id rfl
theorem gL_19 {L p B : Nat} {xs : Nat → Int32} {M N : Mem} {K : SL → Option Unit} (hL : L ≤ 384) (hp : p + 6 ≤ L) (hB : B < 10000) (h : Rel B M N) (hK : ∀ M' N', Rel (B + 1) M' N' → K (nI p, [], M', N') = some ()) : runL (cL_19 L xs) K 100 1001 (nI p, [], M, N) = some () := by
  rw [eL_19]
  have i1 : ∀ F : Nat → Option Unit, ixx (nI p + 1) L F = F (p + 1) := fun F => ixL hL hp (c := 1) (by decide) F
  have i2 : ∀ F : Nat → Option Unit, ixx (nI p + 2) L F = F (p + 2) := fun F => ixL hL hp (c := 2) (by decide) F
  have i3 : ∀ F : Nat → Option Unit, ixx (nI p + 3) L F = F (p + 3) := fun F => ixL hL hp (c := 3) (by decide) F
  simp only [i1, i2, i3]
  obtain ⟨r, M1, N1, e1, e2, h1⟩ := s_renew h (xs (p + 1)) (xs (p + 2)) (xs (p + 3))
  rw [e1]
  simp only [Option.bind_some]
  rw [e2]
  simp only [Option.bind_some, if_true]
  exact hK M1 N1 h1
def cL_20 (L : Nat) (xs : Nat → Int32) : List (Nat × StL) := [(1044, lA 1044 0),
  (1045, lA 1045 99),
  (1046, lI 1046),
  (1047, lC 1047 1 1),
  (1048, lBin 1048 (fun x y => x + y)),
  (1049, lAt 1049 L xs),
  (1050, lA 1050 99),
  (1051, lI 1051),
  (1052, lC 1052 1 2),
  (1053, lBin 1053 (fun x y => x + y)),
  (1054, lAt 1054 L xs),
  (1055, lCallF 1055 3 dF_advance),
  (1058, lA 1058 40),
  (1059, lA 1059 99),
  (1060, lI 1060),
  (1061, lC 1061 1 1),
  (1062, lBin 1062 (fun x y => x + y)),
  (1063, lAt 1063 L xs),
  (1064, lA 1064 99),
  (1065, lI 1065),
  (1066, lC 1066 1 2),
  (1067, lBin 1067 (fun x y => x + y)),
  (1068, lAt 1068 L xs),
  (1069, lCallK 1069 3 dK_advance),
  (1072, lSame 2238)]
theorem oL_20 (L : Nat) (xs : Nat → Int32) (l : Launch) : AllL L xs l (cL_20 L xs) := by
  refine akL (kl_aload (k0 := 1) (.inr (.inl ⟨rfl, rfl⟩)) (by decide +kernel)) ?_
  refine akL (kl_aload (k0 := 0) (.inl ⟨rfl, rfl⟩) (by decide +kernel)) ?_
  refine akL (kl_iload (k0 := 3) rfl (by decide +kernel)) ?_
  refine akL (kl_const (ins := .iconst 1) (by decide +kernel) (.inl ⟨1, rfl, rfl, by decide⟩)) ?_
  refine akL (kl_iadd (by decide +kernel)) ?_
  refine akL (kl_at (by decide +kernel)) ?_
  refine akL (kl_aload (k0 := 0) (.inl ⟨rfl, rfl⟩) (by decide +kernel)) ?_
  refine akL (kl_iload (k0 := 3) rfl (by decide +kernel)) ?_
  refine akL (kl_const (ins := .iconst 2) (by decide +kernel) (.inl ⟨2, rfl, rfl, by decide⟩)) ?_
  refine akL (kl_iadd (by decide +kernel)) ?_
  refine akL (kl_at (by decide +kernel)) ?_
  refine akL (kl_callF (fun E' h => kF_advance h l) qF_advance ck10 kd0 iF_advance qiF_advance qsF_advance (by decide) qlF_advance (by decide +kernel)) ?_
  refine akL (kl_aload (k0 := 2) (.inr (.inr ⟨rfl, rfl⟩)) (by decide +kernel)) ?_
  refine akL (kl_aload (k0 := 0) (.inl ⟨rfl, rfl⟩) (by decide +kernel)) ?_
  refine akL (kl_iload (k0 := 3) rfl (by decide +kernel)) ?_
  refine akL (kl_const (ins := .iconst 1) (by decide +kernel) (.inl ⟨1, rfl, rfl, by decide⟩)) ?_
  refine akL (kl_iadd (by decide +kernel)) ?_
  refine akL (kl_at (by decide +kernel)) ?_
  refine akL (kl_aload (k0 := 0) (.inl ⟨rfl, rfl⟩) (by decide +kernel)) ?_
  refine akL (kl_iload (k0 := 3) rfl (by decide +kernel)) ?_
  refine akL (kl_const (ins := .iconst 2) (by decide +kernel) (.inl ⟨2, rfl, rfl, by decide⟩)) ?_
  refine akL (kl_iadd (by decide +kernel)) ?_
  refine akL (kl_at (by decide +kernel)) ?_
  refine akL (kl_callK (fun E' h => kK_advance h l) qK_advance ck11 kd40 iK_advance qiK_advance qsK_advance (by decide) qlK_advance (by decide +kernel)) ?_
  refine akL (kl_same (off := 1166) (by decide) (by decide +kernel)) ?_
  exact trivial
set_option maxRecDepth 1000000 in
theorem eL_20 (L : Nat) (xs : Nat → Int32) (K : SL → Option Unit) (i : Int32) (M N : Mem) : runL (cL_20 L xs) K 100 1044 (i, [], M, N) = ixx (i + 1) L fun j1 => ixx (i + 2) L fun j2 => (mF_advance (xs j1) (xs j2) M).bind fun q3 => ixx (i + 1) L fun j4 => ixx (i + 2) L fun j5 => (mK_advance (xs j4) (xs j5) N).bind fun q6 => if q3.1 = q6.1 then K (i, [], q3.2, q6.2) else none := id rfl
theorem gL_20 {L p B : Nat} {xs : Nat → Int32} {M N : Mem} {K : SL → Option Unit} (hL : L ≤ 384) (hp : p + 6 ≤ L) (hB : B < 10000) (h : Rel B M N) (hK : ∀ M' N', Rel (B + 1) M' N' → K (nI p, [], M', N') = some ()) : runL (cL_20 L xs) K 100 1044 (nI p, [], M, N) = some () := by
  rw [eL_20]
  have i1 : ∀ F : Nat → Option Unit, ixx (nI p + 1) L F = F (p + 1) := fun F => ixL hL hp (c := 1) (by decide) F
  have i2 : ∀ F : Nat → Option Unit, ixx (nI p + 2) L F = F (p + 2) := fun F => ixL hL hp (c := 2) (by decide) F
  simp only [i1, i2]
  obtain ⟨r, M1, N1, e1, e2, h1⟩ := s_advance h (xs (p + 1)) (xs (p + 2)) hB
  rw [e1]
  simp only [Option.bind_some]
  rw [e2]
  simp only [Option.bind_some, if_true]
  exact hK M1 N1 h1
def cL_21 (L : Nat) (xs : Nat → Int32) : List (Nat × StL) := [(1077, lA 1077 0),
  (1078, lA 1078 99),
  (1079, lI 1079),
  (1080, lC 1080 1 1),
  (1081, lBin 1081 (fun x y => x + y)),
  (1082, lAt 1082 L xs),
  (1083, lA 1083 99),
  (1084, lI 1084),
  (1085, lC 1085 1 2),
  (1086, lBin 1086 (fun x y => x + y)),
  (1087, lAt 1087 L xs),
  (1088, lA 1088 99),
  (1089, lI 1089),
  (1090, lC 1090 1 3),
  (1091, lBin 1091 (fun x y => x + y)),
  (1092, lAt 1092 L xs),
  (1093, lA 1093 99),
  (1094, lI 1094),
  (1095, lC 1095 1 4),
  (1096, lBin 1096 (fun x y => x + y)),
  (1097, lAt 1097 L xs),
  (1098, lCallF 1098 5 dF_truce),
  (1101, lA 1101 40),
  (1102, lA 1102 99),
  (1103, lI 1103),
  (1104, lC 1104 1 1),
  (1105, lBin 1105 (fun x y => x + y)),
  (1106, lAt 1106 L xs),
  (1107, lA 1107 99),
  (1108, lI 1108),
  (1109, lC 1109 1 2),
  (1110, lBin 1110 (fun x y => x + y)),
  (1111, lAt 1111 L xs),
  (1112, lA 1112 99),
  (1113, lI 1113),
  (1114, lC 1114 1 3),
  (1115, lBin 1115 (fun x y => x + y)),
  (1116, lAt 1116 L xs),
  (1117, lA 1117 99),
  (1118, lI 1118),
  (1119, lC 1119 1 4),
  (1120, lBin 1120 (fun x y => x + y)),
  (1121, lAt 1121 L xs),
  (1122, lCallK 1122 5 dK_truce),
  (1125, lSame 2238)]
theorem oL_21 (L : Nat) (xs : Nat → Int32) (l : Launch) : AllL L xs l (cL_21 L xs) := by
  refine akL (kl_aload (k0 := 1) (.inr (.inl ⟨rfl, rfl⟩)) (by decide +kernel)) ?_
  refine akL (kl_aload (k0 := 0) (.inl ⟨rfl, rfl⟩) (by decide +kernel)) ?_
  refine akL (kl_iload (k0 := 3) rfl (by decide +kernel)) ?_
  refine akL (kl_const (ins := .iconst 1) (by decide +kernel) (.inl ⟨1, rfl, rfl, by decide⟩)) ?_
  refine akL (kl_iadd (by decide +kernel)) ?_
  refine akL (kl_at (by decide +kernel)) ?_
  refine akL (kl_aload (k0 := 0) (.inl ⟨rfl, rfl⟩) (by decide +kernel)) ?_
  refine akL (kl_iload (k0 := 3) rfl (by decide +kernel)) ?_
  refine akL (kl_const (ins := .iconst 2) (by decide +kernel) (.inl ⟨2, rfl, rfl, by decide⟩)) ?_
  refine akL (kl_iadd (by decide +kernel)) ?_
  refine akL (kl_at (by decide +kernel)) ?_
  refine akL (kl_aload (k0 := 0) (.inl ⟨rfl, rfl⟩) (by decide +kernel)) ?_
  refine akL (kl_iload (k0 := 3) rfl (by decide +kernel)) ?_
  refine akL (kl_const (ins := .iconst 3) (by decide +kernel) (.inl ⟨3, rfl, rfl, by decide⟩)) ?_
  refine akL (kl_iadd (by decide +kernel)) ?_
  refine akL (kl_at (by decide +kernel)) ?_
  refine akL (kl_aload (k0 := 0) (.inl ⟨rfl, rfl⟩) (by decide +kernel)) ?_
  refine akL (kl_iload (k0 := 3) rfl (by decide +kernel)) ?_
  refine akL (kl_const (ins := .iconst 4) (by decide +kernel) (.inl ⟨4, rfl, rfl, by decide⟩)) ?_
  refine akL (kl_iadd (by decide +kernel)) ?_
  refine akL (kl_at (by decide +kernel)) ?_
  refine akL (kl_callF (fun E' h => kF_truce h l) qF_truce ck10 kd0 iF_truce qiF_truce qsF_truce (by decide) qlF_truce (by decide +kernel)) ?_
  refine akL (kl_aload (k0 := 2) (.inr (.inr ⟨rfl, rfl⟩)) (by decide +kernel)) ?_
  refine akL (kl_aload (k0 := 0) (.inl ⟨rfl, rfl⟩) (by decide +kernel)) ?_
  refine akL (kl_iload (k0 := 3) rfl (by decide +kernel)) ?_
  refine akL (kl_const (ins := .iconst 1) (by decide +kernel) (.inl ⟨1, rfl, rfl, by decide⟩)) ?_
  refine akL (kl_iadd (by decide +kernel)) ?_
  refine akL (kl_at (by decide +kernel)) ?_
  refine akL (kl_aload (k0 := 0) (.inl ⟨rfl, rfl⟩) (by decide +kernel)) ?_
  refine akL (kl_iload (k0 := 3) rfl (by decide +kernel)) ?_
  refine akL (kl_const (ins := .iconst 2) (by decide +kernel) (.inl ⟨2, rfl, rfl, by decide⟩)) ?_
  refine akL (kl_iadd (by decide +kernel)) ?_
  refine akL (kl_at (by decide +kernel)) ?_
  refine akL (kl_aload (k0 := 0) (.inl ⟨rfl, rfl⟩) (by decide +kernel)) ?_
  refine akL (kl_iload (k0 := 3) rfl (by decide +kernel)) ?_
  refine akL (kl_const (ins := .iconst 3) (by decide +kernel) (.inl ⟨3, rfl, rfl, by decide⟩)) ?_
  refine akL (kl_iadd (by decide +kernel)) ?_
  refine akL (kl_at (by decide +kernel)) ?_
  refine akL (kl_aload (k0 := 0) (.inl ⟨rfl, rfl⟩) (by decide +kernel)) ?_
  refine akL (kl_iload (k0 := 3) rfl (by decide +kernel)) ?_
  refine akL (kl_const (ins := .iconst 4) (by decide +kernel) (.inl ⟨4, rfl, rfl, by decide⟩)) ?_
  refine akL (kl_iadd (by decide +kernel)) ?_
  refine akL (kl_at (by decide +kernel)) ?_
  refine akL (kl_callK (fun E' h => kK_truce h l) qK_truce ck11 kd40 iK_truce qiK_truce qsK_truce (by decide) qlK_truce (by decide +kernel)) ?_
  refine akL (kl_same (off := 1113) (by decide) (by decide +kernel)) ?_
  exact trivial
set_option maxRecDepth 1000000 in
theorem eL_21 (L : Nat) (xs : Nat → Int32) (K : SL → Option Unit) (i : Int32) (M N : Mem) : runL (cL_21 L xs) K 100 1077 (i, [], M, N) = ixx (i + 1) L fun j1 => ixx (i + 2) L fun j2 => ixx (i + 3) L fun j3 => ixx (i + 4) L fun j4 => (mF_truce (xs j1) (xs j2) (xs j3) (xs j4) M).bind fun q5 => ixx (i + 1) L fun j6 => ixx (i + 2) L fun j7 => ixx (i + 3) L fun j8 => ixx (i + 4) L fun j9 => (mK_truce (xs j6) (xs j7) (xs j8) (xs j9) N).bind fun q10 => if q5.1 = q10.1 then K (i, [], q5.2, q10.2) else none := id rfl
theorem gL_21 {L p B : Nat} {xs : Nat → Int32} {M N : Mem} {K : SL → Option Unit} (hL : L ≤ 384) (hp : p + 6 ≤ L) (hB : B < 10000) (h : Rel B M N) (hK : ∀ M' N', Rel (B + 1) M' N' → K (nI p, [], M', N') = some ()) : runL (cL_21 L xs) K 100 1077 (nI p, [], M, N) = some () := by
  rw [eL_21]
  have i1 : ∀ F : Nat → Option Unit, ixx (nI p + 1) L F = F (p + 1) := fun F => ixL hL hp (c := 1) (by decide) F
  have i2 : ∀ F : Nat → Option Unit, ixx (nI p + 2) L F = F (p + 2) := fun F => ixL hL hp (c := 2) (by decide) F
  have i3 : ∀ F : Nat → Option Unit, ixx (nI p + 3) L F = F (p + 3) := fun F => ixL hL hp (c := 3) (by decide) F
  have i4 : ∀ F : Nat → Option Unit, ixx (nI p + 4) L F = F (p + 4) := fun F => ixL hL hp (c := 4) (by decide) F
  simp only [i1, i2, i3, i4]
  obtain ⟨r, M1, N1, e1, e2, h1⟩ := s_truce h (xs (p + 1)) (xs (p + 2)) (xs (p + 3)) (xs (p + 4))
  rw [e1]
  simp only [Option.bind_some]
  rw [e2]
  simp only [Option.bind_some, if_true]
  exact hK M1 N1 h1
def cL_22 (L : Nat) (xs : Nat → Int32) : List (Nat × StL) := [(1130, lA 1130 0),
  (1131, lA 1131 99),
  (1132, lI 1132),
  (1133, lC 1133 1 1),
  (1134, lBin 1134 (fun x y => x + y)),
  (1135, lAt 1135 L xs),
  (1136, lA 1136 99),
  (1137, lI 1137),
  (1138, lC 1138 1 2),
  (1139, lBin 1139 (fun x y => x + y)),
  (1140, lAt 1140 L xs),
  (1141, lA 1141 99),
  (1142, lI 1142),
  (1143, lC 1143 1 3),
  (1144, lBin 1144 (fun x y => x + y)),
  (1145, lAt 1145 L xs),
  (1146, lA 1146 99),
  (1147, lI 1147),
  (1148, lC 1148 1 4),
  (1149, lBin 1149 (fun x y => x + y)),
  (1150, lAt 1150 L xs),
  (1151, lA 1151 99),
  (1152, lI 1152),
  (1153, lC 1153 1 5),
  (1154, lBin 1154 (fun x y => x + y)),
  (1155, lAt 1155 L xs),
  (1156, lCallF 1156 6 dF_safe),
  (1159, lA 1159 40),
  (1160, lA 1160 99),
  (1161, lI 1161),
  (1162, lC 1162 1 1),
  (1163, lBin 1163 (fun x y => x + y)),
  (1164, lAt 1164 L xs),
  (1165, lA 1165 99),
  (1166, lI 1166),
  (1167, lC 1167 1 2),
  (1168, lBin 1168 (fun x y => x + y)),
  (1169, lAt 1169 L xs),
  (1170, lA 1170 99),
  (1171, lI 1171),
  (1172, lC 1172 1 3),
  (1173, lBin 1173 (fun x y => x + y)),
  (1174, lAt 1174 L xs),
  (1175, lA 1175 99),
  (1176, lI 1176),
  (1177, lC 1177 1 4),
  (1178, lBin 1178 (fun x y => x + y)),
  (1179, lAt 1179 L xs),
  (1180, lA 1180 99),
  (1181, lI 1181),
  (1182, lC 1182 1 5),
  (1183, lBin 1183 (fun x y => x + y)),
  (1184, lAt 1184 L xs),
  (1185, lCallK 1185 6 dK_safe),
  (1188, lSame 2238)]
theorem oL_22 (L : Nat) (xs : Nat → Int32) (l : Launch) : AllL L xs l (cL_22 L xs) := by
  refine akL (kl_aload (k0 := 1) (.inr (.inl ⟨rfl, rfl⟩)) (by decide +kernel)) ?_
  refine akL (kl_aload (k0 := 0) (.inl ⟨rfl, rfl⟩) (by decide +kernel)) ?_
  refine akL (kl_iload (k0 := 3) rfl (by decide +kernel)) ?_
  refine akL (kl_const (ins := .iconst 1) (by decide +kernel) (.inl ⟨1, rfl, rfl, by decide⟩)) ?_
  refine akL (kl_iadd (by decide +kernel)) ?_
  refine akL (kl_at (by decide +kernel)) ?_
  refine akL (kl_aload (k0 := 0) (.inl ⟨rfl, rfl⟩) (by decide +kernel)) ?_
  refine akL (kl_iload (k0 := 3) rfl (by decide +kernel)) ?_
  refine akL (kl_const (ins := .iconst 2) (by decide +kernel) (.inl ⟨2, rfl, rfl, by decide⟩)) ?_
  refine akL (kl_iadd (by decide +kernel)) ?_
  refine akL (kl_at (by decide +kernel)) ?_
  refine akL (kl_aload (k0 := 0) (.inl ⟨rfl, rfl⟩) (by decide +kernel)) ?_
  refine akL (kl_iload (k0 := 3) rfl (by decide +kernel)) ?_
  refine akL (kl_const (ins := .iconst 3) (by decide +kernel) (.inl ⟨3, rfl, rfl, by decide⟩)) ?_
  refine akL (kl_iadd (by decide +kernel)) ?_
  refine akL (kl_at (by decide +kernel)) ?_
  refine akL (kl_aload (k0 := 0) (.inl ⟨rfl, rfl⟩) (by decide +kernel)) ?_
  refine akL (kl_iload (k0 := 3) rfl (by decide +kernel)) ?_
  refine akL (kl_const (ins := .iconst 4) (by decide +kernel) (.inl ⟨4, rfl, rfl, by decide⟩)) ?_
  refine akL (kl_iadd (by decide +kernel)) ?_
  refine akL (kl_at (by decide +kernel)) ?_
  refine akL (kl_aload (k0 := 0) (.inl ⟨rfl, rfl⟩) (by decide +kernel)) ?_
  refine akL (kl_iload (k0 := 3) rfl (by decide +kernel)) ?_
  refine akL (kl_const (ins := .iconst 5) (by decide +kernel) (.inl ⟨5, rfl, rfl, by decide⟩)) ?_
  refine akL (kl_iadd (by decide +kernel)) ?_
  refine akL (kl_at (by decide +kernel)) ?_
  refine akL (kl_callF (fun E' h => kF_safe h l) qF_safe ck10 kd0 iF_safe qiF_safe qsF_safe (by decide) qlF_safe (by decide +kernel)) ?_
  refine akL (kl_aload (k0 := 2) (.inr (.inr ⟨rfl, rfl⟩)) (by decide +kernel)) ?_
  refine akL (kl_aload (k0 := 0) (.inl ⟨rfl, rfl⟩) (by decide +kernel)) ?_
  refine akL (kl_iload (k0 := 3) rfl (by decide +kernel)) ?_
  refine akL (kl_const (ins := .iconst 1) (by decide +kernel) (.inl ⟨1, rfl, rfl, by decide⟩)) ?_
  refine akL (kl_iadd (by decide +kernel)) ?_
  refine akL (kl_at (by decide +kernel)) ?_
  refine akL (kl_aload (k0 := 0) (.inl ⟨rfl, rfl⟩) (by decide +kernel)) ?_
  refine akL (kl_iload (k0 := 3) rfl (by decide +kernel)) ?_
  refine akL (kl_const (ins := .iconst 2) (by decide +kernel) (.inl ⟨2, rfl, rfl, by decide⟩)) ?_
  refine akL (kl_iadd (by decide +kernel)) ?_
  refine akL (kl_at (by decide +kernel)) ?_
  refine akL (kl_aload (k0 := 0) (.inl ⟨rfl, rfl⟩) (by decide +kernel)) ?_
  refine akL (kl_iload (k0 := 3) rfl (by decide +kernel)) ?_
  refine akL (kl_const (ins := .iconst 3) (by decide +kernel) (.inl ⟨3, rfl, rfl, by decide⟩)) ?_
  refine akL (kl_iadd (by decide +kernel)) ?_
  refine akL (kl_at (by decide +kernel)) ?_
  refine akL (kl_aload (k0 := 0) (.inl ⟨rfl, rfl⟩) (by decide +kernel)) ?_
  refine akL (kl_iload (k0 := 3) rfl (by decide +kernel)) ?_
  refine akL (kl_const (ins := .iconst 4) (by decide +kernel) (.inl ⟨4, rfl, rfl, by decide⟩)) ?_
  refine akL (kl_iadd (by decide +kernel)) ?_
  refine akL (kl_at (by decide +kernel)) ?_
  refine akL (kl_aload (k0 := 0) (.inl ⟨rfl, rfl⟩) (by decide +kernel)) ?_
  refine akL (kl_iload (k0 := 3) rfl (by decide +kernel)) ?_
  refine akL (kl_const (ins := .iconst 5) (by decide +kernel) (.inl ⟨5, rfl, rfl, by decide⟩)) ?_
  refine akL (kl_iadd (by decide +kernel)) ?_
  refine akL (kl_at (by decide +kernel)) ?_
  refine akL (kl_callK (fun E' h => kK_safe h l) qK_safe ck11 kd40 iK_safe qiK_safe qsK_safe (by decide) qlK_safe (by decide +kernel)) ?_
  refine akL (kl_same (off := 1050) (by decide) (by decide +kernel)) ?_
  exact trivial
set_option maxRecDepth 1000000 in
theorem eL_22 (L : Nat) (xs : Nat → Int32) (K : SL → Option Unit) (i : Int32) (M N : Mem) : runL (cL_22 L xs) K 100 1130 (i, [], M, N) = ixx (i + 1) L fun j1 => ixx (i + 2) L fun j2 => ixx (i + 3) L fun j3 => ixx (i + 4) L fun j4 => ixx (i + 5) L fun j5 => (mF_safe (xs j1) (xs j2) (xs j3) (xs j4) (xs j5) M).bind fun q6 => ixx (i + 1) L fun j7 => ixx (i + 2) L fun j8 => ixx (i + 3) L fun j9 => ixx (i + 4) L fun j10 => ixx (i + 5) L fun j11 => (mK_safe (xs j7) (xs j8) (xs j9) (xs j10) (xs j11) N).bind fun q12 => if q6.1 = q12.1 then K (i, [], q6.2, q12.2) else none := id rfl
theorem gL_22 {L p B : Nat} {xs : Nat → Int32} {M N : Mem} {K : SL → Option Unit} (hL : L ≤ 384) (hp : p + 6 ≤ L) (hB : B < 10000) (h : Rel B M N) (hK : ∀ M' N', Rel (B + 1) M' N' → K (nI p, [], M', N') = some ()) : runL (cL_22 L xs) K 100 1130 (nI p, [], M, N) = some () := by
  rw [eL_22]
  have i1 : ∀ F : Nat → Option Unit, ixx (nI p + 1) L F = F (p + 1) := fun F => ixL hL hp (c := 1) (by decide) F
  have i2 : ∀ F : Nat → Option Unit, ixx (nI p + 2) L F = F (p + 2) := fun F => ixL hL hp (c := 2) (by decide) F
  have i3 : ∀ F : Nat → Option Unit, ixx (nI p + 3) L F = F (p + 3) := fun F => ixL hL hp (c := 3) (by decide) F
  have i4 : ∀ F : Nat → Option Unit, ixx (nI p + 4) L F = F (p + 4) := fun F => ixL hL hp (c := 4) (by decide) F
  have i5 : ∀ F : Nat → Option Unit, ixx (nI p + 5) L F = F (p + 5) := fun F => ixL hL hp (c := 5) (by decide) F
  simp only [i1, i2, i3, i4, i5]
  obtain ⟨r, M1, N1, e1, e2, h1⟩ := s_safe h (xs (p + 1)) (xs (p + 2)) (xs (p + 3)) (xs (p + 4)) (xs (p + 5)) hB
  rw [e1]
  simp only [Option.bind_some]
  rw [e2]
  simp only [Option.bind_some, if_true]
  exact hK M1 N1 h1
def cL_23 (L : Nat) (xs : Nat → Int32) : List (Nat × StL) := [(1193, lA 1193 0),
  (1194, lA 1194 99),
  (1195, lI 1195),
  (1196, lC 1196 1 1),
  (1197, lBin 1197 (fun x y => x + y)),
  (1198, lAt 1198 L xs),
  (1199, lA 1199 99),
  (1200, lI 1200),
  (1201, lC 1201 1 2),
  (1202, lBin 1202 (fun x y => x + y)),
  (1203, lAt 1203 L xs),
  (1204, lCallF 1204 3 dF_ransom),
  (1207, lA 1207 40),
  (1208, lA 1208 99),
  (1209, lI 1209),
  (1210, lC 1210 1 1),
  (1211, lBin 1211 (fun x y => x + y)),
  (1212, lAt 1212 L xs),
  (1213, lA 1213 99),
  (1214, lI 1214),
  (1215, lC 1215 1 2),
  (1216, lBin 1216 (fun x y => x + y)),
  (1217, lAt 1217 L xs),
  (1218, lCallK 1218 3 dK_ransom),
  (1221, lSame 2238)]
theorem oL_23 (L : Nat) (xs : Nat → Int32) (l : Launch) : AllL L xs l (cL_23 L xs) := by
  refine akL (kl_aload (k0 := 1) (.inr (.inl ⟨rfl, rfl⟩)) (by decide +kernel)) ?_
  refine akL (kl_aload (k0 := 0) (.inl ⟨rfl, rfl⟩) (by decide +kernel)) ?_
  refine akL (kl_iload (k0 := 3) rfl (by decide +kernel)) ?_
  refine akL (kl_const (ins := .iconst 1) (by decide +kernel) (.inl ⟨1, rfl, rfl, by decide⟩)) ?_
  refine akL (kl_iadd (by decide +kernel)) ?_
  refine akL (kl_at (by decide +kernel)) ?_
  refine akL (kl_aload (k0 := 0) (.inl ⟨rfl, rfl⟩) (by decide +kernel)) ?_
  refine akL (kl_iload (k0 := 3) rfl (by decide +kernel)) ?_
  refine akL (kl_const (ins := .iconst 2) (by decide +kernel) (.inl ⟨2, rfl, rfl, by decide⟩)) ?_
  refine akL (kl_iadd (by decide +kernel)) ?_
  refine akL (kl_at (by decide +kernel)) ?_
  refine akL (kl_callF (fun E' h => kF_ransom h l) qF_ransom ck10 kd0 iF_ransom qiF_ransom qsF_ransom (by decide) qlF_ransom (by decide +kernel)) ?_
  refine akL (kl_aload (k0 := 2) (.inr (.inr ⟨rfl, rfl⟩)) (by decide +kernel)) ?_
  refine akL (kl_aload (k0 := 0) (.inl ⟨rfl, rfl⟩) (by decide +kernel)) ?_
  refine akL (kl_iload (k0 := 3) rfl (by decide +kernel)) ?_
  refine akL (kl_const (ins := .iconst 1) (by decide +kernel) (.inl ⟨1, rfl, rfl, by decide⟩)) ?_
  refine akL (kl_iadd (by decide +kernel)) ?_
  refine akL (kl_at (by decide +kernel)) ?_
  refine akL (kl_aload (k0 := 0) (.inl ⟨rfl, rfl⟩) (by decide +kernel)) ?_
  refine akL (kl_iload (k0 := 3) rfl (by decide +kernel)) ?_
  refine akL (kl_const (ins := .iconst 2) (by decide +kernel) (.inl ⟨2, rfl, rfl, by decide⟩)) ?_
  refine akL (kl_iadd (by decide +kernel)) ?_
  refine akL (kl_at (by decide +kernel)) ?_
  refine akL (kl_callK (fun E' h => kK_ransom h l) qK_ransom ck11 kd40 iK_ransom qiK_ransom qsK_ransom (by decide) qlK_ransom (by decide +kernel)) ?_
  refine akL (kl_same (off := 1017) (by decide) (by decide +kernel)) ?_
  exact trivial
set_option maxRecDepth 1000000 in
theorem eL_23 (L : Nat) (xs : Nat → Int32) (K : SL → Option Unit) (i : Int32) (M N : Mem) : runL (cL_23 L xs) K 100 1193 (i, [], M, N) = ixx (i + 1) L fun j1 => ixx (i + 2) L fun j2 => (mF_ransom (xs j1) (xs j2) M).bind fun q3 => ixx (i + 1) L fun j4 => ixx (i + 2) L fun j5 => (mK_ransom (xs j4) (xs j5) N).bind fun q6 => if q3.1 = q6.1 then K (i, [], q3.2, q6.2) else none := id rfl
theorem gL_23 {L p B : Nat} {xs : Nat → Int32} {M N : Mem} {K : SL → Option Unit} (hL : L ≤ 384) (hp : p + 6 ≤ L) (hB : B < 10000) (h : Rel B M N) (hK : ∀ M' N', Rel (B + 1) M' N' → K (nI p, [], M', N') = some ()) : runL (cL_23 L xs) K 100 1193 (nI p, [], M, N) = some () := by
  rw [eL_23]
  have i1 : ∀ F : Nat → Option Unit, ixx (nI p + 1) L F = F (p + 1) := fun F => ixL hL hp (c := 1) (by decide) F
  have i2 : ∀ F : Nat → Option Unit, ixx (nI p + 2) L F = F (p + 2) := fun F => ixL hL hp (c := 2) (by decide) F
  simp only [i1, i2]
  obtain ⟨r, M1, N1, e1, e2, h1⟩ := s_ransom h (xs (p + 1)) (xs (p + 2)) hB
  rw [e1]
  simp only [Option.bind_some]
  rw [e2]
  simp only [Option.bind_some, if_true]
  exact hK M1 N1 h1
