/-! ===== the law, case by case ===== -/
def cL_24 (L : Nat) (xs : Nat → Int32) : List (Nat × StL) := [(1226, lA 1226 0),
  (1227, lA 1227 99),
  (1228, lI 1228),
  (1229, lC 1229 1 1),
  (1230, lBin 1230 (fun x y => x + y)),
  (1231, lAt 1231 L xs),
  (1232, lA 1232 99),
  (1233, lI 1233),
  (1234, lC 1234 1 2),
  (1235, lBin 1235 (fun x y => x + y)),
  (1236, lAt 1236 L xs),
  (1237, lCallF 1237 3 dF_as),
  (1240, lA 1240 40),
  (1241, lA 1241 99),
  (1242, lI 1242),
  (1243, lC 1243 1 1),
  (1244, lBin 1244 (fun x y => x + y)),
  (1245, lAt 1245 L xs),
  (1246, lA 1246 99),
  (1247, lI 1247),
  (1248, lC 1248 1 2),
  (1249, lBin 1249 (fun x y => x + y)),
  (1250, lAt 1250 L xs),
  (1251, lCallK 1251 3 dK_as),
  (1254, lSame 2238)]
theorem oL_24 (L : Nat) (xs : Nat → Int32) (l : Launch) : AllL L xs l (cL_24 L xs) := by
  refine akL (kl_aload (k0 := 1) (.inr (.inl ⟨rfl, rfl⟩)) (by decide +kernel)) ?_
  refine akL (kl_aload (k0 := 0) (.inl ⟨rfl, rfl⟩) (by decide +kernel)) ?_
  refine akL (kl_iload (k0 := 3) rfl (by decide +kernel)) ?_
  refine akL (kl_const (ins := .iconst 1) (by decide +kernel) (.inl ⟨1, rfl, rfl, by decide⟩)) ?_
  refine akL (kl_iadd (by decide +kernel)) ?_
  refine akL (kl_at (by decide +kernel)) ?_
  refine akL (kl_aload (k0 := 0) (.inl ⟨rfl, rfl⟩) (by decide +kernel)) ?_
  refine akL (kl_iload (k0 := 3) rfl (by decide +kernel)) ?_
  refine akL (kl_const (ins := .iconst 2) (by decide +kernel) (.inl ⟨2, rfl, rfl, by decide⟩)) ?_
  refine akL (kl_iadd (by decide +kernel)) ?_
  refine akL (kl_at (by decide +kernel)) ?_
  refine akL (kl_callF (fun E' h => kF_as h l) qF_as ck10 kd0 iF_as qiF_as qsF_as (by decide) qlF_as (by decide +kernel)) ?_
  refine akL (kl_aload (k0 := 2) (.inr (.inr ⟨rfl, rfl⟩)) (by decide +kernel)) ?_
  refine akL (kl_aload (k0 := 0) (.inl ⟨rfl, rfl⟩) (by decide +kernel)) ?_
  refine akL (kl_iload (k0 := 3) rfl (by decide +kernel)) ?_
  refine akL (kl_const (ins := .iconst 1) (by decide +kernel) (.inl ⟨1, rfl, rfl, by decide⟩)) ?_
  refine akL (kl_iadd (by decide +kernel)) ?_
  refine akL (kl_at (by decide +kernel)) ?_
  refine akL (kl_aload (k0 := 0) (.inl ⟨rfl, rfl⟩) (by decide +kernel)) ?_
  refine akL (kl_iload (k0 := 3) rfl (by decide +kernel)) ?_
  refine akL (kl_const (ins := .iconst 2) (by decide +kernel) (.inl ⟨2, rfl, rfl, by decide⟩)) ?_
  refine akL (kl_iadd (by decide +kernel)) ?_
  refine akL (kl_at (by decide +kernel)) ?_
  refine akL (kl_callK (fun E' h => kK_as h l) qK_as ck11 kd40 iK_as qiK_as qsK_as (by decide) qlK_as (by decide +kernel)) ?_
  refine akL (kl_same (off := 984) (by decide) (by decide +kernel)) ?_
  exact trivial
set_option maxRecDepth 1000000 in
theorem eL_24 (L : Nat) (xs : Nat → Int32) (K : SL → Option Unit) (i : Int32) (M N : Mem) : runL (cL_24 L xs) K 100 1226 (i, [], M, N) = ixx (i + 1) L fun j1 => ixx (i + 2) L fun j2 => (mF_as (xs j1) (xs j2) M).bind fun q3 => ixx (i + 1) L fun j4 => ixx (i + 2) L fun j5 => (mK_as (xs j4) (xs j5) N).bind fun q6 => if q3.1 = q6.1 then K (i, [], q3.2, q6.2) else none := id rfl
theorem gL_24 {L p B : Nat} {xs : Nat → Int32} {M N : Mem} {K : SL → Option Unit} (hL : L ≤ 384) (hp : p + 6 ≤ L) (hB : B < 10000) (h : Rel B M N) (hK : ∀ M' N', Rel (B + 1) M' N' → K (nI p, [], M', N') = some ()) : runL (cL_24 L xs) K 100 1226 (nI p, [], M, N) = some () := by
  rw [eL_24]
  have i1 : ∀ F : Nat → Option Unit, ixx (nI p + 1) L F = F (p + 1) := fun F => ixL hL hp (c := 1) (by decide) F
  have i2 : ∀ F : Nat → Option Unit, ixx (nI p + 2) L F = F (p + 2) := fun F => ixL hL hp (c := 2) (by decide) F
  simp only [i1, i2]
  obtain ⟨r, M1, N1, e1, e2, h1⟩ := s_as h (xs (p + 1)) (xs (p + 2))
  rw [e1]
  simp only [Option.bind_some]
  rw [e2]
  simp only [Option.bind_some, if_true]
  exact hK M1 N1 h1
def cL_25 (L : Nat) (xs : Nat → Int32) : List (Nat × StL) := [(1259, lA 1259 0),
  (1260, lA 1260 99),
  (1261, lI 1261),
  (1262, lC 1262 1 1),
  (1263, lBin 1263 (fun x y => x + y)),
  (1264, lAt 1264 L xs),
  (1265, lA 1265 99),
  (1266, lI 1266),
  (1267, lC 1267 1 2),
  (1268, lBin 1268 (fun x y => x + y)),
  (1269, lAt 1269 L xs),
  (1270, lCallF 1270 3 dF_bondIs),
  (1273, lA 1273 40),
  (1274, lA 1274 99),
  (1275, lI 1275),
  (1276, lC 1276 1 1),
  (1277, lBin 1277 (fun x y => x + y)),
  (1278, lAt 1278 L xs),
  (1279, lA 1279 99),
  (1280, lI 1280),
  (1281, lC 1281 1 2),
  (1282, lBin 1282 (fun x y => x + y)),
  (1283, lAt 1283 L xs),
  (1284, lCallK 1284 3 dK_bondIs),
  (1287, lSame 2238)]
theorem oL_25 (L : Nat) (xs : Nat → Int32) (l : Launch) : AllL L xs l (cL_25 L xs) := by
  refine akL (kl_aload (k0 := 1) (.inr (.inl ⟨rfl, rfl⟩)) (by decide +kernel)) ?_
  refine akL (kl_aload (k0 := 0) (.inl ⟨rfl, rfl⟩) (by decide +kernel)) ?_
  refine akL (kl_iload (k0 := 3) rfl (by decide +kernel)) ?_
  refine akL (kl_const (ins := .iconst 1) (by decide +kernel) (.inl ⟨1, rfl, rfl, by decide⟩)) ?_
  refine akL (kl_iadd (by decide +kernel)) ?_
  refine akL (kl_at (by decide +kernel)) ?_
  refine akL (kl_aload (k0 := 0) (.inl ⟨rfl, rfl⟩) (by decide +kernel)) ?_
  refine akL (kl_iload (k0 := 3) rfl (by decide +kernel)) ?_
  refine akL (kl_const (ins := .iconst 2) (by decide +kernel) (.inl ⟨2, rfl, rfl, by decide⟩)) ?_
  refine akL (kl_iadd (by decide +kernel)) ?_
  refine akL (kl_at (by decide +kernel)) ?_
  refine akL (kl_callF (fun E' h => kF_bondIs h l) qF_bondIs ck10 kd0 iF_bondIs qiF_bondIs qsF_bondIs (by decide) qlF_bondIs (by decide +kernel)) ?_
  refine akL (kl_aload (k0 := 2) (.inr (.inr ⟨rfl, rfl⟩)) (by decide +kernel)) ?_
  refine akL (kl_aload (k0 := 0) (.inl ⟨rfl, rfl⟩) (by decide +kernel)) ?_
  refine akL (kl_iload (k0 := 3) rfl (by decide +kernel)) ?_
  refine akL (kl_const (ins := .iconst 1) (by decide +kernel) (.inl ⟨1, rfl, rfl, by decide⟩)) ?_
  refine akL (kl_iadd (by decide +kernel)) ?_
  refine akL (kl_at (by decide +kernel)) ?_
  refine akL (kl_aload (k0 := 0) (.inl ⟨rfl, rfl⟩) (by decide +kernel)) ?_
  refine akL (kl_iload (k0 := 3) rfl (by decide +kernel)) ?_
  refine akL (kl_const (ins := .iconst 2) (by decide +kernel) (.inl ⟨2, rfl, rfl, by decide⟩)) ?_
  refine akL (kl_iadd (by decide +kernel)) ?_
  refine akL (kl_at (by decide +kernel)) ?_
  refine akL (kl_callK (fun E' h => kK_bondIs h l) qK_bondIs ck11 kd40 iK_bondIs qiK_bondIs qsK_bondIs (by decide) qlK_bondIs (by decide +kernel)) ?_
  refine akL (kl_same (off := 951) (by decide) (by decide +kernel)) ?_
  exact trivial
set_option maxRecDepth 1000000 in
theorem eL_25 (L : Nat) (xs : Nat → Int32) (K : SL → Option Unit) (i : Int32) (M N : Mem) : runL (cL_25 L xs) K 100 1259 (i, [], M, N) = ixx (i + 1) L fun j1 => ixx (i + 2) L fun j2 => (mF_bondIs (xs j1) (xs j2) M).bind fun q3 => ixx (i + 1) L fun j4 => ixx (i + 2) L fun j5 => (mK_bondIs (xs j4) (xs j5) N).bind fun q6 => if q3.1 = q6.1 then K (i, [], q3.2, q6.2) else none := id rfl
theorem gL_25 {L p B : Nat} {xs : Nat → Int32} {M N : Mem} {K : SL → Option Unit} (hL : L ≤ 384) (hp : p + 6 ≤ L) (hB : B < 10000) (h : Rel B M N) (hK : ∀ M' N', Rel (B + 1) M' N' → K (nI p, [], M', N') = some ()) : runL (cL_25 L xs) K 100 1259 (nI p, [], M, N) = some () := by
  rw [eL_25]
  have i1 : ∀ F : Nat → Option Unit, ixx (nI p + 1) L F = F (p + 1) := fun F => ixL hL hp (c := 1) (by decide) F
  have i2 : ∀ F : Nat → Option Unit, ixx (nI p + 2) L F = F (p + 2) := fun F => ixL hL hp (c := 2) (by decide) F
  simp only [i1, i2]
  obtain ⟨r, M1, N1, e1, e2, h1⟩ := s_bondIs h (xs (p + 1)) (xs (p + 2))
  rw [e1]
  simp only [Option.bind_some]
  rw [e2]
  simp only [Option.bind_some, if_true]
  exact hK M1 N1 h1
def cL_26 (L : Nat) (xs : Nat → Int32) : List (Nat × StL) := [(1292, lA 1292 0),
  (1293, lA 1293 99),
  (1294, lI 1294),
  (1295, lC 1295 1 1),
  (1296, lBin 1296 (fun x y => x + y)),
  (1297, lAt 1297 L xs),
  (1298, lA 1298 99),
  (1299, lI 1299),
  (1300, lC 1300 1 2),
  (1301, lBin 1301 (fun x y => x + y)),
  (1302, lAt 1302 L xs),
  (1303, lCallF 1303 3 dF_stop),
  (1306, lA 1306 40),
  (1307, lA 1307 99),
  (1308, lI 1308),
  (1309, lC 1309 1 1),
  (1310, lBin 1310 (fun x y => x + y)),
  (1311, lAt 1311 L xs),
  (1312, lA 1312 99),
  (1313, lI 1313),
  (1314, lC 1314 1 2),
  (1315, lBin 1315 (fun x y => x + y)),
  (1316, lAt 1316 L xs),
  (1317, lCallK 1317 3 dK_stop),
  (1320, lSame 2238)]
theorem oL_26 (L : Nat) (xs : Nat → Int32) (l : Launch) : AllL L xs l (cL_26 L xs) := by
  refine akL (kl_aload (k0 := 1) (.inr (.inl ⟨rfl, rfl⟩)) (by decide +kernel)) ?_
  refine akL (kl_aload (k0 := 0) (.inl ⟨rfl, rfl⟩) (by decide +kernel)) ?_
  refine akL (kl_iload (k0 := 3) rfl (by decide +kernel)) ?_
  refine akL (kl_const (ins := .iconst 1) (by decide +kernel) (.inl ⟨1, rfl, rfl, by decide⟩)) ?_
  refine akL (kl_iadd (by decide +kernel)) ?_
  refine akL (kl_at (by decide +kernel)) ?_
  refine akL (kl_aload (k0 := 0) (.inl ⟨rfl, rfl⟩) (by decide +kernel)) ?_
  refine akL (kl_iload (k0 := 3) rfl (by decide +kernel)) ?_
  refine akL (kl_const (ins := .iconst 2) (by decide +kernel) (.inl ⟨2, rfl, rfl, by decide⟩)) ?_
  refine akL (kl_iadd (by decide +kernel)) ?_
  refine akL (kl_at (by decide +kernel)) ?_
  refine akL (kl_callF (fun E' h => kF_stop h l) qF_stop ck10 kd0 iF_stop qiF_stop qsF_stop (by decide) qlF_stop (by decide +kernel)) ?_
  refine akL (kl_aload (k0 := 2) (.inr (.inr ⟨rfl, rfl⟩)) (by decide +kernel)) ?_
  refine akL (kl_aload (k0 := 0) (.inl ⟨rfl, rfl⟩) (by decide +kernel)) ?_
  refine akL (kl_iload (k0 := 3) rfl (by decide +kernel)) ?_
  refine akL (kl_const (ins := .iconst 1) (by decide +kernel) (.inl ⟨1, rfl, rfl, by decide⟩)) ?_
  refine akL (kl_iadd (by decide +kernel)) ?_
  refine akL (kl_at (by decide +kernel)) ?_
  refine akL (kl_aload (k0 := 0) (.inl ⟨rfl, rfl⟩) (by decide +kernel)) ?_
  refine akL (kl_iload (k0 := 3) rfl (by decide +kernel)) ?_
  refine akL (kl_const (ins := .iconst 2) (by decide +kernel) (.inl ⟨2, rfl, rfl, by decide⟩)) ?_
  refine akL (kl_iadd (by decide +kernel)) ?_
  refine akL (kl_at (by decide +kernel)) ?_
  refine akL (kl_callK (fun E' h => kK_stop h l) qK_stop ck11 kd40 iK_stop qiK_stop qsK_stop (by decide) qlK_stop (by decide +kernel)) ?_
  refine akL (kl_same (off := 918) (by decide) (by decide +kernel)) ?_
  exact trivial
set_option maxRecDepth 1000000 in
theorem eL_26 (L : Nat) (xs : Nat → Int32) (K : SL → Option Unit) (i : Int32) (M N : Mem) : runL (cL_26 L xs) K 100 1292 (i, [], M, N) = ixx (i + 1) L fun j1 => ixx (i + 2) L fun j2 => (mF_stop (xs j1) (xs j2) M).bind fun q3 => ixx (i + 1) L fun j4 => ixx (i + 2) L fun j5 => (mK_stop (xs j4) (xs j5) N).bind fun q6 => if q3.1 = q6.1 then K (i, [], q3.2, q6.2) else none := id rfl
theorem gL_26 {L p B : Nat} {xs : Nat → Int32} {M N : Mem} {K : SL → Option Unit} (hL : L ≤ 384) (hp : p + 6 ≤ L) (hB : B < 10000) (h : Rel B M N) (hK : ∀ M' N', Rel (B + 1) M' N' → K (nI p, [], M', N') = some ()) : runL (cL_26 L xs) K 100 1292 (nI p, [], M, N) = some () := by
  rw [eL_26]
  have i1 : ∀ F : Nat → Option Unit, ixx (nI p + 1) L F = F (p + 1) := fun F => ixL hL hp (c := 1) (by decide) F
  have i2 : ∀ F : Nat → Option Unit, ixx (nI p + 2) L F = F (p + 2) := fun F => ixL hL hp (c := 2) (by decide) F
  simp only [i1, i2]
  obtain ⟨r, M1, N1, e1, e2, h1⟩ := s_stop h (xs (p + 1)) (xs (p + 2))
  rw [e1]
  simp only [Option.bind_some]
  rw [e2]
  simp only [Option.bind_some, if_true]
  exact hK M1 N1 h1
def cL_27 (L : Nat) (xs : Nat → Int32) : List (Nat × StL) := [(1325, lA 1325 0),
  (1326, lA 1326 99),
  (1327, lI 1327),
  (1328, lC 1328 1 1),
  (1329, lBin 1329 (fun x y => x + y)),
  (1330, lAt 1330 L xs),
  (1331, lA 1331 99),
  (1332, lI 1332),
  (1333, lC 1333 1 2),
  (1334, lBin 1334 (fun x y => x + y)),
  (1335, lAt 1335 L xs),
  (1336, lCallF 1336 3 dF_pay),
  (1339, lA 1339 40),
  (1340, lA 1340 99),
  (1341, lI 1341),
  (1342, lC 1342 1 1),
  (1343, lBin 1343 (fun x y => x + y)),
  (1344, lAt 1344 L xs),
  (1345, lA 1345 99),
  (1346, lI 1346),
  (1347, lC 1347 1 2),
  (1348, lBin 1348 (fun x y => x + y)),
  (1349, lAt 1349 L xs),
  (1350, lCallK 1350 3 dK_pay),
  (1353, lSame 2238)]
theorem oL_27 (L : Nat) (xs : Nat → Int32) (l : Launch) : AllL L xs l (cL_27 L xs) := by
  refine akL (kl_aload (k0 := 1) (.inr (.inl ⟨rfl, rfl⟩)) (by decide +kernel)) ?_
  refine akL (kl_aload (k0 := 0) (.inl ⟨rfl, rfl⟩) (by decide +kernel)) ?_
  refine akL (kl_iload (k0 := 3) rfl (by decide +kernel)) ?_
  refine akL (kl_const (ins := .iconst 1) (by decide +kernel) (.inl ⟨1, rfl, rfl, by decide⟩)) ?_
  refine akL (kl_iadd (by decide +kernel)) ?_
  refine akL (kl_at (by decide +kernel)) ?_
  refine akL (kl_aload (k0 := 0) (.inl ⟨rfl, rfl⟩) (by decide +kernel)) ?_
  refine akL (kl_iload (k0 := 3) rfl (by decide +kernel)) ?_
  refine akL (kl_const (ins := .iconst 2) (by decide +kernel) (.inl ⟨2, rfl, rfl, by decide⟩)) ?_
  refine akL (kl_iadd (by decide +kernel)) ?_
  refine akL (kl_at (by decide +kernel)) ?_
  refine akL (kl_callF (fun E' h => kF_pay h l) qF_pay ck10 kd0 iF_pay qiF_pay qsF_pay (by decide) qlF_pay (by decide +kernel)) ?_
  refine akL (kl_aload (k0 := 2) (.inr (.inr ⟨rfl, rfl⟩)) (by decide +kernel)) ?_
  refine akL (kl_aload (k0 := 0) (.inl ⟨rfl, rfl⟩) (by decide +kernel)) ?_
  refine akL (kl_iload (k0 := 3) rfl (by decide +kernel)) ?_
  refine akL (kl_const (ins := .iconst 1) (by decide +kernel) (.inl ⟨1, rfl, rfl, by decide⟩)) ?_
  refine akL (kl_iadd (by decide +kernel)) ?_
  refine akL (kl_at (by decide +kernel)) ?_
  refine akL (kl_aload (k0 := 0) (.inl ⟨rfl, rfl⟩) (by decide +kernel)) ?_
  refine akL (kl_iload (k0 := 3) rfl (by decide +kernel)) ?_
  refine akL (kl_const (ins := .iconst 2) (by decide +kernel) (.inl ⟨2, rfl, rfl, by decide⟩)) ?_
  refine akL (kl_iadd (by decide +kernel)) ?_
  refine akL (kl_at (by decide +kernel)) ?_
  refine akL (kl_callK (fun E' h => kK_pay h l) qK_pay ck11 kd40 iK_pay qiK_pay qsK_pay (by decide) qlK_pay (by decide +kernel)) ?_
  refine akL (kl_same (off := 885) (by decide) (by decide +kernel)) ?_
  exact trivial
set_option maxRecDepth 1000000 in
theorem eL_27 (L : Nat) (xs : Nat → Int32) (K : SL → Option Unit) (i : Int32) (M N : Mem) : runL (cL_27 L xs) K 100 1325 (i, [], M, N) = ixx (i + 1) L fun j1 => ixx (i + 2) L fun j2 => (mF_pay (xs j1) (xs j2) M).bind fun q3 => ixx (i + 1) L fun j4 => ixx (i + 2) L fun j5 => (mK_pay (xs j4) (xs j5) N).bind fun q6 => if q3.1 = q6.1 then K (i, [], q3.2, q6.2) else none := id rfl
theorem gL_27 {L p B : Nat} {xs : Nat → Int32} {M N : Mem} {K : SL → Option Unit} (hL : L ≤ 384) (hp : p + 6 ≤ L) (hB : B < 10000) (h : Rel B M N) (hK : ∀ M' N', Rel (B + 1) M' N' → K (nI p, [], M', N') = some ()) : runL (cL_27 L xs) K 100 1325 (nI p, [], M, N) = some () := by
  rw [eL_27]
  have i1 : ∀ F : Nat → Option Unit, ixx (nI p + 1) L F = F (p + 1) := fun F => ixL hL hp (c := 1) (by decide) F
  have i2 : ∀ F : Nat → Option Unit, ixx (nI p + 2) L F = F (p + 2) := fun F => ixL hL hp (c := 2) (by decide) F
  simp only [i1, i2]
  obtain ⟨r, M1, N1, e1, e2, h1⟩ := s_pay h (xs (p + 1)) (xs (p + 2)) hB
  rw [e1]
  simp only [Option.bind_some]
  rw [e2]
  simp only [Option.bind_some, if_true]
  exact hK M1 N1 h1
def cL_28 (L : Nat) (xs : Nat → Int32) : List (Nat × StL) := [(1358, lA 1358 0),
  (1359, lA 1359 99),
  (1360, lI 1360),
  (1361, lC 1361 1 1),
  (1362, lBin 1362 (fun x y => x + y)),
  (1363, lAt 1363 L xs),
  (1364, lA 1364 99),
  (1365, lI 1365),
  (1366, lC 1366 1 2),
  (1367, lBin 1367 (fun x y => x + y)),
  (1368, lAt 1368 L xs),
  (1369, lCallF 1369 3 dF_serves),
  (1372, lA 1372 40),
  (1373, lA 1373 99),
  (1374, lI 1374),
  (1375, lC 1375 1 1),
  (1376, lBin 1376 (fun x y => x + y)),
  (1377, lAt 1377 L xs),
  (1378, lA 1378 99),
  (1379, lI 1379),
  (1380, lC 1380 1 2),
  (1381, lBin 1381 (fun x y => x + y)),
  (1382, lAt 1382 L xs),
  (1383, lCallK 1383 3 dK_serves),
  (1386, lSame 2238)]
theorem oL_28 (L : Nat) (xs : Nat → Int32) (l : Launch) : AllL L xs l (cL_28 L xs) := by
  refine akL (kl_aload (k0 := 1) (.inr (.inl ⟨rfl, rfl⟩)) (by decide +kernel)) ?_
  refine akL (kl_aload (k0 := 0) (.inl ⟨rfl, rfl⟩) (by decide +kernel)) ?_
  refine akL (kl_iload (k0 := 3) rfl (by decide +kernel)) ?_
  refine akL (kl_const (ins := .iconst 1) (by decide +kernel) (.inl ⟨1, rfl, rfl, by decide⟩)) ?_
  refine akL (kl_iadd (by decide +kernel)) ?_
  refine akL (kl_at (by decide +kernel)) ?_
  refine akL (kl_aload (k0 := 0) (.inl ⟨rfl, rfl⟩) (by decide +kernel)) ?_
  refine akL (kl_iload (k0 := 3) rfl (by decide +kernel)) ?_
  refine akL (kl_const (ins := .iconst 2) (by decide +kernel) (.inl ⟨2, rfl, rfl, by decide⟩)) ?_
  refine akL (kl_iadd (by decide +kernel)) ?_
  refine akL (kl_at (by decide +kernel)) ?_
  refine akL (kl_callF (fun E' h => kF_serves h l) qF_serves ck10 kd0 iF_serves qiF_serves qsF_serves (by decide) qlF_serves (by decide +kernel)) ?_
  refine akL (kl_aload (k0 := 2) (.inr (.inr ⟨rfl, rfl⟩)) (by decide +kernel)) ?_
  refine akL (kl_aload (k0 := 0) (.inl ⟨rfl, rfl⟩) (by decide +kernel)) ?_
  refine akL (kl_iload (k0 := 3) rfl (by decide +kernel)) ?_
  refine akL (kl_const (ins := .iconst 1) (by decide +kernel) (.inl ⟨1, rfl, rfl, by decide⟩)) ?_
  refine akL (kl_iadd (by decide +kernel)) ?_
  refine akL (kl_at (by decide +kernel)) ?_
  refine akL (kl_aload (k0 := 0) (.inl ⟨rfl, rfl⟩) (by decide +kernel)) ?_
  refine akL (kl_iload (k0 := 3) rfl (by decide +kernel)) ?_
  refine akL (kl_const (ins := .iconst 2) (by decide +kernel) (.inl ⟨2, rfl, rfl, by decide⟩)) ?_
  refine akL (kl_iadd (by decide +kernel)) ?_
  refine akL (kl_at (by decide +kernel)) ?_
  refine akL (kl_callK (fun E' h => kK_serves h l) qK_serves ck11 kd40 iK_serves qiK_serves qsK_serves (by decide) qlK_serves (by decide +kernel)) ?_
  refine akL (kl_same (off := 852) (by decide) (by decide +kernel)) ?_
  exact trivial
set_option maxRecDepth 1000000 in
theorem eL_28 (L : Nat) (xs : Nat → Int32) (K : SL → Option Unit) (i : Int32) (M N : Mem) : runL (cL_28 L xs) K 100 1358 (i, [], M, N) = ixx (i + 1) L fun j1 => ixx (i + 2) L fun j2 => (mF_serves (xs j1) (xs j2) M).bind fun q3 => ixx (i + 1) L fun j4 => ixx (i + 2) L fun j5 => (mK_serves (xs j4) (xs j5) N).bind fun q6 => if q3.1 = q6.1 then K (i, [], q3.2, q6.2) else none := id rfl
theorem gL_28 {L p B : Nat} {xs : Nat → Int32} {M N : Mem} {K : SL → Option Unit} (hL : L ≤ 384) (hp : p + 6 ≤ L) (hB : B < 10000) (h : Rel B M N) (hK : ∀ M' N', Rel (B + 1) M' N' → K (nI p, [], M', N') = some ()) : runL (cL_28 L xs) K 100 1358 (nI p, [], M, N) = some () := by
  rw [eL_28]
  have i1 : ∀ F : Nat → Option Unit, ixx (nI p + 1) L F = F (p + 1) := fun F => ixL hL hp (c := 1) (by decide) F
  have i2 : ∀ F : Nat → Option Unit, ixx (nI p + 2) L F = F (p + 2) := fun F => ixL hL hp (c := 2) (by decide) F
  simp only [i1, i2]
  obtain ⟨r, M1, N1, e1, e2, h1⟩ := s_serves h (xs (p + 1)) (xs (p + 2))
  rw [e1]
  simp only [Option.bind_some]
  rw [e2]
  simp only [Option.bind_some, if_true]
  exact hK M1 N1 h1
def cL_29 (L : Nat) (xs : Nat → Int32) : List (Nat × StL) := [(1391, lA 1391 0),
  (1392, lA 1392 99),
  (1393, lI 1393),
  (1394, lC 1394 1 1),
  (1395, lBin 1395 (fun x y => x + y)),
  (1396, lAt 1396 L xs),
  (1397, lA 1397 99),
  (1398, lI 1398),
  (1399, lC 1399 1 2),
  (1400, lBin 1400 (fun x y => x + y)),
  (1401, lAt 1401 L xs),
  (1402, lCallF 1402 3 dF_clash),
  (1405, lA 1405 40),
  (1406, lA 1406 99),
  (1407, lI 1407),
  (1408, lC 1408 1 1),
  (1409, lBin 1409 (fun x y => x + y)),
  (1410, lAt 1410 L xs),
  (1411, lA 1411 99),
  (1412, lI 1412),
  (1413, lC 1413 1 2),
  (1414, lBin 1414 (fun x y => x + y)),
  (1415, lAt 1415 L xs),
  (1416, lCallK 1416 3 dK_clash),
  (1419, lSame 2238)]
theorem oL_29 (L : Nat) (xs : Nat → Int32) (l : Launch) : AllL L xs l (cL_29 L xs) := by
  refine akL (kl_aload (k0 := 1) (.inr (.inl ⟨rfl, rfl⟩)) (by decide +kernel)) ?_
  refine akL (kl_aload (k0 := 0) (.inl ⟨rfl, rfl⟩) (by decide +kernel)) ?_
  refine akL (kl_iload (k0 := 3) rfl (by decide +kernel)) ?_
  refine akL (kl_const (ins := .iconst 1) (by decide +kernel) (.inl ⟨1, rfl, rfl, by decide⟩)) ?_
  refine akL (kl_iadd (by decide +kernel)) ?_
  refine akL (kl_at (by decide +kernel)) ?_
  refine akL (kl_aload (k0 := 0) (.inl ⟨rfl, rfl⟩) (by decide +kernel)) ?_
  refine akL (kl_iload (k0 := 3) rfl (by decide +kernel)) ?_
  refine akL (kl_const (ins := .iconst 2) (by decide +kernel) (.inl ⟨2, rfl, rfl, by decide⟩)) ?_
  refine akL (kl_iadd (by decide +kernel)) ?_
  refine akL (kl_at (by decide +kernel)) ?_
  refine akL (kl_callF (fun E' h => kF_clash h l) qF_clash ck10 kd0 iF_clash qiF_clash qsF_clash (by decide) qlF_clash (by decide +kernel)) ?_
  refine akL (kl_aload (k0 := 2) (.inr (.inr ⟨rfl, rfl⟩)) (by decide +kernel)) ?_
  refine akL (kl_aload (k0 := 0) (.inl ⟨rfl, rfl⟩) (by decide +kernel)) ?_
  refine akL (kl_iload (k0 := 3) rfl (by decide +kernel)) ?_
  refine akL (kl_const (ins := .iconst 1) (by decide +kernel) (.inl ⟨1, rfl, rfl, by decide⟩)) ?_
  refine akL (kl_iadd (by decide +kernel)) ?_
  refine akL (kl_at (by decide +kernel)) ?_
  refine akL (kl_aload (k0 := 0) (.inl ⟨rfl, rfl⟩) (by decide +kernel)) ?_
  refine akL (kl_iload (k0 := 3) rfl (by decide +kernel)) ?_
  refine akL (kl_const (ins := .iconst 2) (by decide +kernel) (.inl ⟨2, rfl, rfl, by decide⟩)) ?_
  refine akL (kl_iadd (by decide +kernel)) ?_
  refine akL (kl_at (by decide +kernel)) ?_
  refine akL (kl_callK (fun E' h => kK_clash h l) qK_clash ck11 kd40 iK_clash qiK_clash qsK_clash (by decide) qlK_clash (by decide +kernel)) ?_
  refine akL (kl_same (off := 819) (by decide) (by decide +kernel)) ?_
  exact trivial
set_option maxRecDepth 1000000 in
theorem eL_29 (L : Nat) (xs : Nat → Int32) (K : SL → Option Unit) (i : Int32) (M N : Mem) : runL (cL_29 L xs) K 100 1391 (i, [], M, N) = ixx (i + 1) L fun j1 => ixx (i + 2) L fun j2 => (mF_clash (xs j1) (xs j2) M).bind fun q3 => ixx (i + 1) L fun j4 => ixx (i + 2) L fun j5 => (mK_clash (xs j4) (xs j5) N).bind fun q6 => if q3.1 = q6.1 then K (i, [], q3.2, q6.2) else none := id rfl
theorem gL_29 {L p B : Nat} {xs : Nat → Int32} {M N : Mem} {K : SL → Option Unit} (hL : L ≤ 384) (hp : p + 6 ≤ L) (hB : B < 10000) (h : Rel B M N) (hK : ∀ M' N', Rel (B + 1) M' N' → K (nI p, [], M', N') = some ()) : runL (cL_29 L xs) K 100 1391 (nI p, [], M, N) = some () := by
  rw [eL_29]
  have i1 : ∀ F : Nat → Option Unit, ixx (nI p + 1) L F = F (p + 1) := fun F => ixL hL hp (c := 1) (by decide) F
  have i2 : ∀ F : Nat → Option Unit, ixx (nI p + 2) L F = F (p + 2) := fun F => ixL hL hp (c := 2) (by decide) F
  simp only [i1, i2]
  obtain ⟨r, M1, N1, e1, e2, h1⟩ := s_clash h (xs (p + 1)) (xs (p + 2))
  rw [e1]
  simp only [Option.bind_some]
  rw [e2]
  simp only [Option.bind_some, if_true]
  exact hK M1 N1 h1
