/-! ===== the law, case by case ===== -/
def cL_42 (L : Nat) (xs : Nat → Int32) : List (Nat × StL) := [(1872, lA 1872 0),
  (1873, lA 1873 99),
  (1874, lI 1874),
  (1875, lC 1875 1 1),
  (1876, lBin 1876 (fun x y => x + y)),
  (1877, lAt 1877 L xs),
  (1878, lA 1878 99),
  (1879, lI 1879),
  (1880, lC 1880 1 2),
  (1881, lBin 1881 (fun x y => x + y)),
  (1882, lAt 1882 L xs),
  (1883, lA 1883 99),
  (1884, lI 1884),
  (1885, lC 1885 1 3),
  (1886, lBin 1886 (fun x y => x + y)),
  (1887, lAt 1887 L xs),
  (1888, lCallF 1888 4 dF_ahead),
  (1891, lA 1891 40),
  (1892, lA 1892 99),
  (1893, lI 1893),
  (1894, lC 1894 1 1),
  (1895, lBin 1895 (fun x y => x + y)),
  (1896, lAt 1896 L xs),
  (1897, lA 1897 99),
  (1898, lI 1898),
  (1899, lC 1899 1 2),
  (1900, lBin 1900 (fun x y => x + y)),
  (1901, lAt 1901 L xs),
  (1902, lA 1902 99),
  (1903, lI 1903),
  (1904, lC 1904 1 3),
  (1905, lBin 1905 (fun x y => x + y)),
  (1906, lAt 1906 L xs),
  (1907, lCallK 1907 4 dK_ahead),
  (1910, lSame 2238)]
theorem oL_42 (L : Nat) (xs : Nat → Int32) (l : Launch) : AllL L xs l (cL_42 L xs) := by
  refine akL (kl_aload (k0 := 1) (.inr (.inl ⟨rfl, rfl⟩)) (by decide +kernel)) ?_
  refine akL (kl_aload (k0 := 0) (.inl ⟨rfl, rfl⟩) (by decide +kernel)) ?_
  refine akL (kl_iload (k0 := 3) rfl (by decide +kernel)) ?_
  refine akL (kl_const (ins := .iconst 1) (by decide +kernel) (.inl ⟨1, rfl, rfl, by decide⟩)) ?_
  refine akL (kl_iadd (by decide +kernel)) ?_
  refine akL (kl_at (by decide +kernel)) ?_
  refine akL (kl_aload (k0 := 0) (.inl ⟨rfl, rfl⟩) (by decide +kernel)) ?_
  refine akL (kl_iload (k0 := 3) rfl (by decide +kernel)) ?_
  refine akL (kl_const (ins := .iconst 2) (by decide +kernel) (.inl ⟨2, rfl, rfl, by decide⟩)) ?_
  refine akL (kl_iadd (by decide +kernel)) ?_
  refine akL (kl_at (by decide +kernel)) ?_
  refine akL (kl_aload (k0 := 0) (.inl ⟨rfl, rfl⟩) (by decide +kernel)) ?_
  refine akL (kl_iload (k0 := 3) rfl (by decide +kernel)) ?_
  refine akL (kl_const (ins := .iconst 3) (by decide +kernel) (.inl ⟨3, rfl, rfl, by decide⟩)) ?_
  refine akL (kl_iadd (by decide +kernel)) ?_
  refine akL (kl_at (by decide +kernel)) ?_
  refine akL (kl_callF (fun E' h => kF_ahead h l) qF_ahead ck10 kd0 iF_ahead qiF_ahead qsF_ahead (by decide) qlF_ahead (by decide +kernel)) ?_
  refine akL (kl_aload (k0 := 2) (.inr (.inr ⟨rfl, rfl⟩)) (by decide +kernel)) ?_
  refine akL (kl_aload (k0 := 0) (.inl ⟨rfl, rfl⟩) (by decide +kernel)) ?_
  refine akL (kl_iload (k0 := 3) rfl (by decide +kernel)) ?_
  refine akL (kl_const (ins := .iconst 1) (by decide +kernel) (.inl ⟨1, rfl, rfl, by decide⟩)) ?_
  refine akL (kl_iadd (by decide +kernel)) ?_
  refine akL (kl_at (by decide +kernel)) ?_
  refine akL (kl_aload (k0 := 0) (.inl ⟨rfl, rfl⟩) (by decide +kernel)) ?_
  refine akL (kl_iload (k0 := 3) rfl (by decide +kernel)) ?_
  refine akL (kl_const (ins := .iconst 2) (by decide +kernel) (.inl ⟨2, rfl, rfl, by decide⟩)) ?_
  refine akL (kl_iadd (by decide +kernel)) ?_
  refine akL (kl_at (by decide +kernel)) ?_
  refine akL (kl_aload (k0 := 0) (.inl ⟨rfl, rfl⟩) (by decide +kernel)) ?_
  refine akL (kl_iload (k0 := 3) rfl (by decide +kernel)) ?_
  refine akL (kl_const (ins := .iconst 3) (by decide +kernel) (.inl ⟨3, rfl, rfl, by decide⟩)) ?_
  refine akL (kl_iadd (by decide +kernel)) ?_
  refine akL (kl_at (by decide +kernel)) ?_
  refine akL (kl_callK (fun E' h => kK_ahead h l) qK_ahead ck11 kd40 iK_ahead qiK_ahead qsK_ahead (by decide) qlK_ahead (by decide +kernel)) ?_
  refine akL (kl_same (off := 328) (by decide) (by decide +kernel)) ?_
  exact trivial
set_option maxRecDepth 1000000 in
theorem eL_42 (L : Nat) (xs : Nat → Int32) (K : SL → Option Unit) (i : Int32) (M N : Mem) : runL (cL_42 L xs) K 100 1872 (i, [], M, N) = ixx (i + 1) L fun j1 => ixx (i + 2) L fun j2 => ixx (i + 3) L fun j3 => (mF_ahead (xs j1) (xs j2) (xs j3) M).bind fun q4 => ixx (i + 1) L fun j5 => ixx (i + 2) L fun j6 => ixx (i + 3) L fun j7 => (mK_ahead (xs j5) (xs j6) (xs j7) N).bind fun q8 => if q4.1 = q8.1 then K (i, [], q4.2, q8.2) else none := id rfl
theorem gL_42 {L p B : Nat} {xs : Nat → Int32} {M N : Mem} {K : SL → Option Unit} (hL : L ≤ 384) (hp : p + 6 ≤ L) (hB : B < 10000) (h : Rel B M N) (hK : ∀ M' N', Rel (B + 1) M' N' → K (nI p, [], M', N') = some ()) : runL (cL_42 L xs) K 100 1872 (nI p, [], M, N) = some () := by
  rw [eL_42]
  have i1 : ∀ F : Nat → Option Unit, ixx (nI p + 1) L F = F (p + 1) := fun F => ixL hL hp (c := 1) (by decide) F
  have i2 : ∀ F : Nat → Option Unit, ixx (nI p + 2) L F = F (p + 2) := fun F => ixL hL hp (c := 2) (by decide) F
  have i3 : ∀ F : Nat → Option Unit, ixx (nI p + 3) L F = F (p + 3) := fun F => ixL hL hp (c := 3) (by decide) F
  simp only [i1, i2, i3]
  obtain ⟨r, M1, N1, e1, e2, h1⟩ := s_ahead h (xs (p + 1)) (xs (p + 2)) (xs (p + 3)) hB
  rw [e1]
  simp only [Option.bind_some]
  rw [e2]
  simp only [Option.bind_some, if_true]
  exact hK M1 N1 h1
def cL_43 (L : Nat) (xs : Nat → Int32) : List (Nat × StL) := [(1915, lA 1915 0),
  (1916, lA 1916 99),
  (1917, lI 1917),
  (1918, lC 1918 1 1),
  (1919, lBin 1919 (fun x y => x + y)),
  (1920, lAt 1920 L xs),
  (1921, lA 1921 99),
  (1922, lI 1922),
  (1923, lC 1923 1 2),
  (1924, lBin 1924 (fun x y => x + y)),
  (1925, lAt 1925 L xs),
  (1926, lA 1926 99),
  (1927, lI 1927),
  (1928, lC 1928 1 3),
  (1929, lBin 1929 (fun x y => x + y)),
  (1930, lAt 1930 L xs),
  (1931, lCallF 1931 4 dF_voice),
  (1934, lA 1934 40),
  (1935, lA 1935 99),
  (1936, lI 1936),
  (1937, lC 1937 1 1),
  (1938, lBin 1938 (fun x y => x + y)),
  (1939, lAt 1939 L xs),
  (1940, lA 1940 99),
  (1941, lI 1941),
  (1942, lC 1942 1 2),
  (1943, lBin 1943 (fun x y => x + y)),
  (1944, lAt 1944 L xs),
  (1945, lA 1945 99),
  (1946, lI 1946),
  (1947, lC 1947 1 3),
  (1948, lBin 1948 (fun x y => x + y)),
  (1949, lAt 1949 L xs),
  (1950, lCallK 1950 4 dK_voice),
  (1953, lSame 2238)]
theorem oL_43 (L : Nat) (xs : Nat → Int32) (l : Launch) : AllL L xs l (cL_43 L xs) := by
  refine akL (kl_aload (k0 := 1) (.inr (.inl ⟨rfl, rfl⟩)) (by decide +kernel)) ?_
  refine akL (kl_aload (k0 := 0) (.inl ⟨rfl, rfl⟩) (by decide +kernel)) ?_
  refine akL (kl_iload (k0 := 3) rfl (by decide +kernel)) ?_
  refine akL (kl_const (ins := .iconst 1) (by decide +kernel) (.inl ⟨1, rfl, rfl, by decide⟩)) ?_
  refine akL (kl_iadd (by decide +kernel)) ?_
  refine akL (kl_at (by decide +kernel)) ?_
  refine akL (kl_aload (k0 := 0) (.inl ⟨rfl, rfl⟩) (by decide +kernel)) ?_
  refine akL (kl_iload (k0 := 3) rfl (by decide +kernel)) ?_
  refine akL (kl_const (ins := .iconst 2) (by decide +kernel) (.inl ⟨2, rfl, rfl, by decide⟩)) ?_
  refine akL (kl_iadd (by decide +kernel)) ?_
  refine akL (kl_at (by decide +kernel)) ?_
  refine akL (kl_aload (k0 := 0) (.inl ⟨rfl, rfl⟩) (by decide +kernel)) ?_
  refine akL (kl_iload (k0 := 3) rfl (by decide +kernel)) ?_
  refine akL (kl_const (ins := .iconst 3) (by decide +kernel) (.inl ⟨3, rfl, rfl, by decide⟩)) ?_
  refine akL (kl_iadd (by decide +kernel)) ?_
  refine akL (kl_at (by decide +kernel)) ?_
  refine akL (kl_callF (fun E' h => kF_voice h l) qF_voice ck10 kd0 iF_voice qiF_voice qsF_voice (by decide) qlF_voice (by decide +kernel)) ?_
  refine akL (kl_aload (k0 := 2) (.inr (.inr ⟨rfl, rfl⟩)) (by decide +kernel)) ?_
  refine akL (kl_aload (k0 := 0) (.inl ⟨rfl, rfl⟩) (by decide +kernel)) ?_
  refine akL (kl_iload (k0 := 3) rfl (by decide +kernel)) ?_
  refine akL (kl_const (ins := .iconst 1) (by decide +kernel) (.inl ⟨1, rfl, rfl, by decide⟩)) ?_
  refine akL (kl_iadd (by decide +kernel)) ?_
  refine akL (kl_at (by decide +kernel)) ?_
  refine akL (kl_aload (k0 := 0) (.inl ⟨rfl, rfl⟩) (by decide +kernel)) ?_
  refine akL (kl_iload (k0 := 3) rfl (by decide +kernel)) ?_
  refine akL (kl_const (ins := .iconst 2) (by decide +kernel) (.inl ⟨2, rfl, rfl, by decide⟩)) ?_
  refine akL (kl_iadd (by decide +kernel)) ?_
  refine akL (kl_at (by decide +kernel)) ?_
  refine akL (kl_aload (k0 := 0) (.inl ⟨rfl, rfl⟩) (by decide +kernel)) ?_
  refine akL (kl_iload (k0 := 3) rfl (by decide +kernel)) ?_
  refine akL (kl_const (ins := .iconst 3) (by decide +kernel) (.inl ⟨3, rfl, rfl, by decide⟩)) ?_
  refine akL (kl_iadd (by decide +kernel)) ?_
  refine akL (kl_at (by decide +kernel)) ?_
  refine akL (kl_callK (fun E' h => kK_voice h l) qK_voice ck11 kd40 iK_voice qiK_voice qsK_voice (by decide) qlK_voice (by decide +kernel)) ?_
  refine akL (kl_same (off := 285) (by decide) (by decide +kernel)) ?_
  exact trivial
set_option maxRecDepth 1000000 in
theorem eL_43 (L : Nat) (xs : Nat → Int32) (K : SL → Option Unit) (i : Int32) (M N : Mem) : runL (cL_43 L xs) K 100 1915 (i, [], M, N) = ixx (i + 1) L fun j1 => ixx (i + 2) L fun j2 => ixx (i + 3) L fun j3 => (mF_voice (xs j1) (xs j2) (xs j3) M).bind fun q4 => ixx (i + 1) L fun j5 => ixx (i + 2) L fun j6 => ixx (i + 3) L fun j7 => (mK_voice (xs j5) (xs j6) (xs j7) N).bind fun q8 => if q4.1 = q8.1 then K (i, [], q4.2, q8.2) else none := id rfl
theorem gL_43 {L p B : Nat} {xs : Nat → Int32} {M N : Mem} {K : SL → Option Unit} (hL : L ≤ 384) (hp : p + 6 ≤ L) (hB : B < 10000) (h : Rel B M N) (hK : ∀ M' N', Rel (B + 1) M' N' → K (nI p, [], M', N') = some ()) : runL (cL_43 L xs) K 100 1915 (nI p, [], M, N) = some () := by
  rw [eL_43]
  have i1 : ∀ F : Nat → Option Unit, ixx (nI p + 1) L F = F (p + 1) := fun F => ixL hL hp (c := 1) (by decide) F
  have i2 : ∀ F : Nat → Option Unit, ixx (nI p + 2) L F = F (p + 2) := fun F => ixL hL hp (c := 2) (by decide) F
  have i3 : ∀ F : Nat → Option Unit, ixx (nI p + 3) L F = F (p + 3) := fun F => ixL hL hp (c := 3) (by decide) F
  simp only [i1, i2, i3]
  obtain ⟨r, M1, N1, e1, e2, h1⟩ := s_voice h (xs (p + 1)) (xs (p + 2)) (xs (p + 3))
  rw [e1]
  simp only [Option.bind_some]
  rw [e2]
  simp only [Option.bind_some, if_true]
  exact hK M1 N1 h1
def cL_44 (L : Nat) (xs : Nat → Int32) : List (Nat × StL) := [(1958, lA 1958 0),
  (1959, lA 1959 99),
  (1960, lI 1960),
  (1961, lC 1961 1 1),
  (1962, lBin 1962 (fun x y => x + y)),
  (1963, lAt 1963 L xs),
  (1964, lCallF 1964 2 dF_trace),
  (1967, lA 1967 40),
  (1968, lA 1968 99),
  (1969, lI 1969),
  (1970, lC 1970 1 1),
  (1971, lBin 1971 (fun x y => x + y)),
  (1972, lAt 1972 L xs),
  (1973, lCallK 1973 2 dK_trace),
  (1976, lSame 2238)]
theorem oL_44 (L : Nat) (xs : Nat → Int32) (l : Launch) : AllL L xs l (cL_44 L xs) := by
  refine akL (kl_aload (k0 := 1) (.inr (.inl ⟨rfl, rfl⟩)) (by decide +kernel)) ?_
  refine akL (kl_aload (k0 := 0) (.inl ⟨rfl, rfl⟩) (by decide +kernel)) ?_
  refine akL (kl_iload (k0 := 3) rfl (by decide +kernel)) ?_
  refine akL (kl_const (ins := .iconst 1) (by decide +kernel) (.inl ⟨1, rfl, rfl, by decide⟩)) ?_
  refine akL (kl_iadd (by decide +kernel)) ?_
  refine akL (kl_at (by decide +kernel)) ?_
  refine akL (kl_callF (fun E' h => kF_trace h l) qF_trace ck10 kd0 iF_trace qiF_trace qsF_trace (by decide) qlF_trace (by decide +kernel)) ?_
  refine akL (kl_aload (k0 := 2) (.inr (.inr ⟨rfl, rfl⟩)) (by decide +kernel)) ?_
  refine akL (kl_aload (k0 := 0) (.inl ⟨rfl, rfl⟩) (by decide +kernel)) ?_
  refine akL (kl_iload (k0 := 3) rfl (by decide +kernel)) ?_
  refine akL (kl_const (ins := .iconst 1) (by decide +kernel) (.inl ⟨1, rfl, rfl, by decide⟩)) ?_
  refine akL (kl_iadd (by decide +kernel)) ?_
  refine akL (kl_at (by decide +kernel)) ?_
  refine akL (kl_callK (fun E' h => kK_trace h l) qK_trace ck11 kd40 iK_trace qiK_trace qsK_trace (by decide) qlK_trace (by decide +kernel)) ?_
  refine akL (kl_same (off := 262) (by decide) (by decide +kernel)) ?_
  exact trivial
set_option maxRecDepth 1000000 in
theorem eL_44 (L : Nat) (xs : Nat → Int32) (K : SL → Option Unit) (i : Int32) (M N : Mem) : runL (cL_44 L xs) K 100 1958 (i, [], M, N) = ixx (i + 1) L fun j1 => (mF_trace (xs j1) M).bind fun q2 => ixx (i + 1) L fun j3 => (mK_trace (xs j3) N).bind fun q4 => if q2.1 = q4.1 then K (i, [], q2.2, q4.2) else none := id rfl
theorem gL_44 {L p B : Nat} {xs : Nat → Int32} {M N : Mem} {K : SL → Option Unit} (hL : L ≤ 384) (hp : p + 6 ≤ L) (hB : B < 10000) (h : Rel B M N) (hK : ∀ M' N', Rel (B + 1) M' N' → K (nI p, [], M', N') = some ()) : runL (cL_44 L xs) K 100 1958 (nI p, [], M, N) = some () := by
  rw [eL_44]
  have i1 : ∀ F : Nat → Option Unit, ixx (nI p + 1) L F = F (p + 1) := fun F => ixL hL hp (c := 1) (by decide) F
  simp only [i1]
  obtain ⟨r, M1, N1, e1, e2, h1⟩ := s_trace h (xs (p + 1))
  rw [e1]
  simp only [Option.bind_some]
  rw [e2]
  simp only [Option.bind_some, if_true]
  exact hK M1 N1 h1
def cL_45 (L : Nat) (xs : Nat → Int32) : List (Nat × StL) := [(1981, lA 1981 0),
  (1982, lA 1982 99),
  (1983, lI 1983),
  (1984, lC 1984 1 1),
  (1985, lBin 1985 (fun x y => x + y)),
  (1986, lAt 1986 L xs),
  (1987, lA 1987 99),
  (1988, lI 1988),
  (1989, lC 1989 1 2),
  (1990, lBin 1990 (fun x y => x + y)),
  (1991, lAt 1991 L xs),
  (1992, lA 1992 99),
  (1993, lI 1993),
  (1994, lC 1994 1 3),
  (1995, lBin 1995 (fun x y => x + y)),
  (1996, lAt 1996 L xs),
  (1997, lCallF 1997 4 dF_sheet),
  (2000, lA 2000 40),
  (2001, lA 2001 99),
  (2002, lI 2002),
  (2003, lC 2003 1 1),
  (2004, lBin 2004 (fun x y => x + y)),
  (2005, lAt 2005 L xs),
  (2006, lA 2006 99),
  (2007, lI 2007),
  (2008, lC 2008 1 2),
  (2009, lBin 2009 (fun x y => x + y)),
  (2010, lAt 2010 L xs),
  (2011, lA 2011 99),
  (2012, lI 2012),
  (2013, lC 2013 1 3),
  (2014, lBin 2014 (fun x y => x + y)),
  (2015, lAt 2015 L xs),
  (2016, lCallK 2016 4 dK_sheet),
  (2019, lSame 2238)]
theorem oL_45 (L : Nat) (xs : Nat → Int32) (l : Launch) : AllL L xs l (cL_45 L xs) := by
  refine akL (kl_aload (k0 := 1) (.inr (.inl ⟨rfl, rfl⟩)) (by decide +kernel)) ?_
  refine akL (kl_aload (k0 := 0) (.inl ⟨rfl, rfl⟩) (by decide +kernel)) ?_
  refine akL (kl_iload (k0 := 3) rfl (by decide +kernel)) ?_
  refine akL (kl_const (ins := .iconst 1) (by decide +kernel) (.inl ⟨1, rfl, rfl, by decide⟩)) ?_
  refine akL (kl_iadd (by decide +kernel)) ?_
  refine akL (kl_at (by decide +kernel)) ?_
  refine akL (kl_aload (k0 := 0) (.inl ⟨rfl, rfl⟩) (by decide +kernel)) ?_
  refine akL (kl_iload (k0 := 3) rfl (by decide +kernel)) ?_
  refine akL (kl_const (ins := .iconst 2) (by decide +kernel) (.inl ⟨2, rfl, rfl, by decide⟩)) ?_
  refine akL (kl_iadd (by decide +kernel)) ?_
  refine akL (kl_at (by decide +kernel)) ?_
  refine akL (kl_aload (k0 := 0) (.inl ⟨rfl, rfl⟩) (by decide +kernel)) ?_
  refine akL (kl_iload (k0 := 3) rfl (by decide +kernel)) ?_
  refine akL (kl_const (ins := .iconst 3) (by decide +kernel) (.inl ⟨3, rfl, rfl, by decide⟩)) ?_
  refine akL (kl_iadd (by decide +kernel)) ?_
  refine akL (kl_at (by decide +kernel)) ?_
  refine akL (kl_callF (fun E' h => kF_sheet h l) qF_sheet ck10 kd0 iF_sheet qiF_sheet qsF_sheet (by decide) qlF_sheet (by decide +kernel)) ?_
  refine akL (kl_aload (k0 := 2) (.inr (.inr ⟨rfl, rfl⟩)) (by decide +kernel)) ?_
  refine akL (kl_aload (k0 := 0) (.inl ⟨rfl, rfl⟩) (by decide +kernel)) ?_
  refine akL (kl_iload (k0 := 3) rfl (by decide +kernel)) ?_
  refine akL (kl_const (ins := .iconst 1) (by decide +kernel) (.inl ⟨1, rfl, rfl, by decide⟩)) ?_
  refine akL (kl_iadd (by decide +kernel)) ?_
  refine akL (kl_at (by decide +kernel)) ?_
  refine akL (kl_aload (k0 := 0) (.inl ⟨rfl, rfl⟩) (by decide +kernel)) ?_
  refine akL (kl_iload (k0 := 3) rfl (by decide +kernel)) ?_
  refine akL (kl_const (ins := .iconst 2) (by decide +kernel) (.inl ⟨2, rfl, rfl, by decide⟩)) ?_
  refine akL (kl_iadd (by decide +kernel)) ?_
  refine akL (kl_at (by decide +kernel)) ?_
  refine akL (kl_aload (k0 := 0) (.inl ⟨rfl, rfl⟩) (by decide +kernel)) ?_
  refine akL (kl_iload (k0 := 3) rfl (by decide +kernel)) ?_
  refine akL (kl_const (ins := .iconst 3) (by decide +kernel) (.inl ⟨3, rfl, rfl, by decide⟩)) ?_
  refine akL (kl_iadd (by decide +kernel)) ?_
  refine akL (kl_at (by decide +kernel)) ?_
  refine akL (kl_callK (fun E' h => kK_sheet h l) qK_sheet ck11 kd40 iK_sheet qiK_sheet qsK_sheet (by decide) qlK_sheet (by decide +kernel)) ?_
  refine akL (kl_same (off := 219) (by decide) (by decide +kernel)) ?_
  exact trivial
set_option maxRecDepth 1000000 in
theorem eL_45 (L : Nat) (xs : Nat → Int32) (K : SL → Option Unit) (i : Int32) (M N : Mem) : runL (cL_45 L xs) K 100 1981 (i, [], M, N) = ixx (i + 1) L fun j1 => ixx (i + 2) L fun j2 => ixx (i + 3) L fun j3 => (mF_sheet (xs j1) (xs j2) (xs j3) M).bind fun q4 => ixx (i + 1) L fun j5 => ixx (i + 2) L fun j6 => ixx (i + 3) L fun j7 => (mK_sheet (xs j5) (xs j6) (xs j7) N).bind fun q8 => if q4.1 = q8.1 then K (i, [], q4.2, q8.2) else none := id rfl
theorem gL_45 {L p B : Nat} {xs : Nat → Int32} {M N : Mem} {K : SL → Option Unit} (hL : L ≤ 384) (hp : p + 6 ≤ L) (hB : B < 10000) (h : Rel B M N) (hK : ∀ M' N', Rel (B + 1) M' N' → K (nI p, [], M', N') = some ()) : runL (cL_45 L xs) K 100 1981 (nI p, [], M, N) = some () := by
  rw [eL_45]
  have i1 : ∀ F : Nat → Option Unit, ixx (nI p + 1) L F = F (p + 1) := fun F => ixL hL hp (c := 1) (by decide) F
  have i2 : ∀ F : Nat → Option Unit, ixx (nI p + 2) L F = F (p + 2) := fun F => ixL hL hp (c := 2) (by decide) F
  have i3 : ∀ F : Nat → Option Unit, ixx (nI p + 3) L F = F (p + 3) := fun F => ixL hL hp (c := 3) (by decide) F
  simp only [i1, i2, i3]
  obtain ⟨r, M1, N1, e1, e2, h1⟩ := s_sheet h (xs (p + 1)) (xs (p + 2)) (xs (p + 3))
  rw [e1]
  simp only [Option.bind_some]
  rw [e2]
  simp only [Option.bind_some, if_true]
  exact hK M1 N1 h1
def cL_46 (L : Nat) (xs : Nat → Int32) : List (Nat × StL) := [(2024, lA 2024 0),
  (2025, lA 2025 99),
  (2026, lI 2026),
  (2027, lC 2027 1 1),
  (2028, lBin 2028 (fun x y => x + y)),
  (2029, lAt 2029 L xs),
  (2030, lA 2030 99),
  (2031, lI 2031),
  (2032, lC 2032 1 2),
  (2033, lBin 2033 (fun x y => x + y)),
  (2034, lAt 2034 L xs),
  (2035, lA 2035 99),
  (2036, lI 2036),
  (2037, lC 2037 1 3),
  (2038, lBin 2038 (fun x y => x + y)),
  (2039, lAt 2039 L xs),
  (2040, lCallF 2040 4 dF_put),
  (2043, lA 2043 40),
  (2044, lA 2044 99),
  (2045, lI 2045),
  (2046, lC 2046 1 1),
  (2047, lBin 2047 (fun x y => x + y)),
  (2048, lAt 2048 L xs),
  (2049, lA 2049 99),
  (2050, lI 2050),
  (2051, lC 2051 1 2),
  (2052, lBin 2052 (fun x y => x + y)),
  (2053, lAt 2053 L xs),
  (2054, lA 2054 99),
  (2055, lI 2055),
  (2056, lC 2056 1 3),
  (2057, lBin 2057 (fun x y => x + y)),
  (2058, lAt 2058 L xs),
  (2059, lCallK 2059 4 dK_put),
  (2062, lSame 2238)]
theorem oL_46 (L : Nat) (xs : Nat → Int32) (l : Launch) : AllL L xs l (cL_46 L xs) := by
  refine akL (kl_aload (k0 := 1) (.inr (.inl ⟨rfl, rfl⟩)) (by decide +kernel)) ?_
  refine akL (kl_aload (k0 := 0) (.inl ⟨rfl, rfl⟩) (by decide +kernel)) ?_
  refine akL (kl_iload (k0 := 3) rfl (by decide +kernel)) ?_
  refine akL (kl_const (ins := .iconst 1) (by decide +kernel) (.inl ⟨1, rfl, rfl, by decide⟩)) ?_
  refine akL (kl_iadd (by decide +kernel)) ?_
  refine akL (kl_at (by decide +kernel)) ?_
  refine akL (kl_aload (k0 := 0) (.inl ⟨rfl, rfl⟩) (by decide +kernel)) ?_
  refine akL (kl_iload (k0 := 3) rfl (by decide +kernel)) ?_
  refine akL (kl_const (ins := .iconst 2) (by decide +kernel) (.inl ⟨2, rfl, rfl, by decide⟩)) ?_
  refine akL (kl_iadd (by decide +kernel)) ?_
  refine akL (kl_at (by decide +kernel)) ?_
  refine akL (kl_aload (k0 := 0) (.inl ⟨rfl, rfl⟩) (by decide +kernel)) ?_
  refine akL (kl_iload (k0 := 3) rfl (by decide +kernel)) ?_
  refine akL (kl_const (ins := .iconst 3) (by decide +kernel) (.inl ⟨3, rfl, rfl, by decide⟩)) ?_
  refine akL (kl_iadd (by decide +kernel)) ?_
  refine akL (kl_at (by decide +kernel)) ?_
  refine akL (kl_callF (fun E' h => kF_put h l) qF_put ck10 kd0 iF_put qiF_put qsF_put (by decide) qlF_put (by decide +kernel)) ?_
  refine akL (kl_aload (k0 := 2) (.inr (.inr ⟨rfl, rfl⟩)) (by decide +kernel)) ?_
  refine akL (kl_aload (k0 := 0) (.inl ⟨rfl, rfl⟩) (by decide +kernel)) ?_
  refine akL (kl_iload (k0 := 3) rfl (by decide +kernel)) ?_
  refine akL (kl_const (ins := .iconst 1) (by decide +kernel) (.inl ⟨1, rfl, rfl, by decide⟩)) ?_
  refine akL (kl_iadd (by decide +kernel)) ?_
  refine akL (kl_at (by decide +kernel)) ?_
  refine akL (kl_aload (k0 := 0) (.inl ⟨rfl, rfl⟩) (by decide +kernel)) ?_
  refine akL (kl_iload (k0 := 3) rfl (by decide +kernel)) ?_
  refine akL (kl_const (ins := .iconst 2) (by decide +kernel) (.inl ⟨2, rfl, rfl, by decide⟩)) ?_
  refine akL (kl_iadd (by decide +kernel)) ?_
  refine akL (kl_at (by decide +kernel)) ?_
  refine akL (kl_aload (k0 := 0) (.inl ⟨rfl, rfl⟩) (by decide +kernel)) ?_
  refine akL (kl_iload (k0 := 3) rfl (by decide +kernel)) ?_
  refine akL (kl_const (ins := .iconst 3) (by decide +kernel) (.inl ⟨3, rfl, rfl, by decide⟩)) ?_
  refine akL (kl_iadd (by decide +kernel)) ?_
  refine akL (kl_at (by decide +kernel)) ?_
  refine akL (kl_callK (fun E' h => kK_put h l) qK_put ck11 kd40 iK_put qiK_put qsK_put (by decide) qlK_put (by decide +kernel)) ?_
  refine akL (kl_same (off := 176) (by decide) (by decide +kernel)) ?_
  exact trivial
set_option maxRecDepth 1000000 in
theorem eL_46 (L : Nat) (xs : Nat → Int32) (K : SL → Option Unit) (i : Int32) (M N : Mem) : runL (cL_46 L xs) K 100 2024 (i, [], M, N) = ixx (i + 1) L fun j1 => ixx (i + 2) L fun j2 => ixx (i + 3) L fun j3 => (mF_put (xs j1) (xs j2) (xs j3) M).bind fun q4 => ixx (i + 1) L fun j5 => ixx (i + 2) L fun j6 => ixx (i + 3) L fun j7 => (mK_put (xs j5) (xs j6) (xs j7) N).bind fun q8 => if q4.1 = q8.1 then K (i, [], q4.2, q8.2) else none := id rfl
theorem gL_46 {L p B : Nat} {xs : Nat → Int32} {M N : Mem} {K : SL → Option Unit} (hL : L ≤ 384) (hp : p + 6 ≤ L) (hB : B < 10000) (h : Rel B M N) (hK : ∀ M' N', Rel (B + 1) M' N' → K (nI p, [], M', N') = some ()) : runL (cL_46 L xs) K 100 2024 (nI p, [], M, N) = some () := by
  rw [eL_46]
  have i1 : ∀ F : Nat → Option Unit, ixx (nI p + 1) L F = F (p + 1) := fun F => ixL hL hp (c := 1) (by decide) F
  have i2 : ∀ F : Nat → Option Unit, ixx (nI p + 2) L F = F (p + 2) := fun F => ixL hL hp (c := 2) (by decide) F
  have i3 : ∀ F : Nat → Option Unit, ixx (nI p + 3) L F = F (p + 3) := fun F => ixL hL hp (c := 3) (by decide) F
  simp only [i1, i2, i3]
  obtain ⟨r, M1, N1, e1, e2, h1⟩ := s_put h (xs (p + 1)) (xs (p + 2)) (xs (p + 3))
  rw [e1]
  simp only [Option.bind_some]
  rw [e2]
  simp only [Option.bind_some, if_true]
  exact hK M1 N1 h1
def cL_47 (L : Nat) (xs : Nat → Int32) : List (Nat × StL) := [(2067, lA 2067 0),
  (2068, lA 2068 99),
  (2069, lI 2069),
  (2070, lC 2070 1 1),
  (2071, lBin 2071 (fun x y => x + y)),
  (2072, lAt 2072 L xs),
  (2073, lA 2073 99),
  (2074, lI 2074),
  (2075, lC 2075 1 2),
  (2076, lBin 2076 (fun x y => x + y)),
  (2077, lAt 2077 L xs),
  (2078, lA 2078 99),
  (2079, lI 2079),
  (2080, lC 2080 1 3),
  (2081, lBin 2081 (fun x y => x + y)),
  (2082, lAt 2082 L xs),
  (2083, lA 2083 99),
  (2084, lI 2084),
  (2085, lC 2085 1 4),
  (2086, lBin 2086 (fun x y => x + y)),
  (2087, lAt 2087 L xs),
  (2088, lA 2088 99),
  (2089, lI 2089),
  (2090, lC 2090 1 5),
  (2091, lBin 2091 (fun x y => x + y)),
  (2092, lAt 2092 L xs),
  (2093, lCallF 2093 6 dF_move),
  (2096, lA 2096 40),
  (2097, lA 2097 99),
  (2098, lI 2098),
  (2099, lC 2099 1 1),
  (2100, lBin 2100 (fun x y => x + y)),
  (2101, lAt 2101 L xs),
  (2102, lA 2102 99),
  (2103, lI 2103),
  (2104, lC 2104 1 2),
  (2105, lBin 2105 (fun x y => x + y)),
  (2106, lAt 2106 L xs),
  (2107, lA 2107 99),
  (2108, lI 2108),
  (2109, lC 2109 1 3),
  (2110, lBin 2110 (fun x y => x + y)),
  (2111, lAt 2111 L xs),
  (2112, lA 2112 99),
  (2113, lI 2113),
  (2114, lC 2114 1 4),
  (2115, lBin 2115 (fun x y => x + y)),
  (2116, lAt 2116 L xs),
  (2117, lA 2117 99),
  (2118, lI 2118),
  (2119, lC 2119 1 5),
  (2120, lBin 2120 (fun x y => x + y)),
  (2121, lAt 2121 L xs),
  (2122, lCallK 2122 6 dK_move),
  (2125, lSame 2238)]
theorem oL_47 (L : Nat) (xs : Nat → Int32) (l : Launch) : AllL L xs l (cL_47 L xs) := by
  refine akL (kl_aload (k0 := 1) (.inr (.inl ⟨rfl, rfl⟩)) (by decide +kernel)) ?_
  refine akL (kl_aload (k0 := 0) (.inl ⟨rfl, rfl⟩) (by decide +kernel)) ?_
  refine akL (kl_iload (k0 := 3) rfl (by decide +kernel)) ?_
  refine akL (kl_const (ins := .iconst 1) (by decide +kernel) (.inl ⟨1, rfl, rfl, by decide⟩)) ?_
  refine akL (kl_iadd (by decide +kernel)) ?_
  refine akL (kl_at (by decide +kernel)) ?_
  refine akL (kl_aload (k0 := 0) (.inl ⟨rfl, rfl⟩) (by decide +kernel)) ?_
  refine akL (kl_iload (k0 := 3) rfl (by decide +kernel)) ?_
  refine akL (kl_const (ins := .iconst 2) (by decide +kernel) (.inl ⟨2, rfl, rfl, by decide⟩)) ?_
  refine akL (kl_iadd (by decide +kernel)) ?_
  refine akL (kl_at (by decide +kernel)) ?_
  refine akL (kl_aload (k0 := 0) (.inl ⟨rfl, rfl⟩) (by decide +kernel)) ?_
  refine akL (kl_iload (k0 := 3) rfl (by decide +kernel)) ?_
  refine akL (kl_const (ins := .iconst 3) (by decide +kernel) (.inl ⟨3, rfl, rfl, by decide⟩)) ?_
  refine akL (kl_iadd (by decide +kernel)) ?_
  refine akL (kl_at (by decide +kernel)) ?_
  refine akL (kl_aload (k0 := 0) (.inl ⟨rfl, rfl⟩) (by decide +kernel)) ?_
  refine akL (kl_iload (k0 := 3) rfl (by decide +kernel)) ?_
  refine akL (kl_const (ins := .iconst 4) (by decide +kernel) (.inl ⟨4, rfl, rfl, by decide⟩)) ?_
  refine akL (kl_iadd (by decide +kernel)) ?_
  refine akL (kl_at (by decide +kernel)) ?_
  refine akL (kl_aload (k0 := 0) (.inl ⟨rfl, rfl⟩) (by decide +kernel)) ?_
  refine akL (kl_iload (k0 := 3) rfl (by decide +kernel)) ?_
  refine akL (kl_const (ins := .iconst 5) (by decide +kernel) (.inl ⟨5, rfl, rfl, by decide⟩)) ?_
  refine akL (kl_iadd (by decide +kernel)) ?_
  refine akL (kl_at (by decide +kernel)) ?_
  refine akL (kl_callF (fun E' h => kF_move h l) qF_move ck10 kd0 iF_move qiF_move qsF_move (by decide) qlF_move (by decide +kernel)) ?_
  refine akL (kl_aload (k0 := 2) (.inr (.inr ⟨rfl, rfl⟩)) (by decide +kernel)) ?_
  refine akL (kl_aload (k0 := 0) (.inl ⟨rfl, rfl⟩) (by decide +kernel)) ?_
  refine akL (kl_iload (k0 := 3) rfl (by decide +kernel)) ?_
  refine akL (kl_const (ins := .iconst 1) (by decide +kernel) (.inl ⟨1, rfl, rfl, by decide⟩)) ?_
  refine akL (kl_iadd (by decide +kernel)) ?_
  refine akL (kl_at (by decide +kernel)) ?_
  refine akL (kl_aload (k0 := 0) (.inl ⟨rfl, rfl⟩) (by decide +kernel)) ?_
  refine akL (kl_iload (k0 := 3) rfl (by decide +kernel)) ?_
  refine akL (kl_const (ins := .iconst 2) (by decide +kernel) (.inl ⟨2, rfl, rfl, by decide⟩)) ?_
  refine akL (kl_iadd (by decide +kernel)) ?_
  refine akL (kl_at (by decide +kernel)) ?_
  refine akL (kl_aload (k0 := 0) (.inl ⟨rfl, rfl⟩) (by decide +kernel)) ?_
  refine akL (kl_iload (k0 := 3) rfl (by decide +kernel)) ?_
  refine akL (kl_const (ins := .iconst 3) (by decide +kernel) (.inl ⟨3, rfl, rfl, by decide⟩)) ?_
  refine akL (kl_iadd (by decide +kernel)) ?_
  refine akL (kl_at (by decide +kernel)) ?_
  refine akL (kl_aload (k0 := 0) (.inl ⟨rfl, rfl⟩) (by decide +kernel)) ?_
  refine akL (kl_iload (k0 := 3) rfl (by decide +kernel)) ?_
  refine akL (kl_const (ins := .iconst 4) (by decide +kernel) (.inl ⟨4, rfl, rfl, by decide⟩)) ?_
  refine akL (kl_iadd (by decide +kernel)) ?_
  refine akL (kl_at (by decide +kernel)) ?_
  refine akL (kl_aload (k0 := 0) (.inl ⟨rfl, rfl⟩) (by decide +kernel)) ?_
  refine akL (kl_iload (k0 := 3) rfl (by decide +kernel)) ?_
  refine akL (kl_const (ins := .iconst 5) (by decide +kernel) (.inl ⟨5, rfl, rfl, by decide⟩)) ?_
  refine akL (kl_iadd (by decide +kernel)) ?_
  refine akL (kl_at (by decide +kernel)) ?_
  refine akL (kl_callK (fun E' h => kK_move h l) qK_move ck11 kd40 iK_move qiK_move qsK_move (by decide) qlK_move (by decide +kernel)) ?_
  refine akL (kl_same (off := 113) (by decide) (by decide +kernel)) ?_
  exact trivial
set_option maxRecDepth 1000000 in
theorem eL_47 (L : Nat) (xs : Nat → Int32) (K : SL → Option Unit) (i : Int32) (M N : Mem) : runL (cL_47 L xs) K 100 2067 (i, [], M, N) = ixx (i + 1) L fun j1 => ixx (i + 2) L fun j2 => ixx (i + 3) L fun j3 => ixx (i + 4) L fun j4 => ixx (i + 5) L fun j5 => (mF_move (xs j1) (xs j2) (xs j3) (xs j4) (xs j5) M).bind fun q6 => ixx (i + 1) L fun j7 => ixx (i + 2) L fun j8 => ixx (i + 3) L fun j9 => ixx (i + 4) L fun j10 => ixx (i + 5) L fun j11 => (mK_move (xs j7) (xs j8) (xs j9) (xs j10) (xs j11) N).bind fun q12 => if q6.1 = q12.1 then K (i, [], q6.2, q12.2) else none := id rfl
theorem gL_47 {L p B : Nat} {xs : Nat → Int32} {M N : Mem} {K : SL → Option Unit} (hL : L ≤ 384) (hp : p + 6 ≤ L) (hB : B < 10000) (h : Rel B M N) (hK : ∀ M' N', Rel (B + 1) M' N' → K (nI p, [], M', N') = some ()) : runL (cL_47 L xs) K 100 2067 (nI p, [], M, N) = some () := by
  rw [eL_47]
  have i1 : ∀ F : Nat → Option Unit, ixx (nI p + 1) L F = F (p + 1) := fun F => ixL hL hp (c := 1) (by decide) F
  have i2 : ∀ F : Nat → Option Unit, ixx (nI p + 2) L F = F (p + 2) := fun F => ixL hL hp (c := 2) (by decide) F
  have i3 : ∀ F : Nat → Option Unit, ixx (nI p + 3) L F = F (p + 3) := fun F => ixL hL hp (c := 3) (by decide) F
  have i4 : ∀ F : Nat → Option Unit, ixx (nI p + 4) L F = F (p + 4) := fun F => ixL hL hp (c := 4) (by decide) F
  have i5 : ∀ F : Nat → Option Unit, ixx (nI p + 5) L F = F (p + 5) := fun F => ixL hL hp (c := 5) (by decide) F
  simp only [i1, i2, i3, i4, i5]
  obtain ⟨r, M1, N1, e1, e2, h1⟩ := s_move h (xs (p + 1)) (xs (p + 2)) (xs (p + 3)) (xs (p + 4)) (xs (p + 5))
  rw [e1]
  simp only [Option.bind_some]
  rw [e2]
  simp only [Option.bind_some, if_true]
  exact hK M1 N1 h1
