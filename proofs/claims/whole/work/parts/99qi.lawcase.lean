/-! ===== the law, case by case ===== -/
def cL_48 (L : Nat) (xs : Nat → Int32) : List (Nat × StL) := [(2130, lA 2130 0),
  (2131, lCallF 2131 1 dF_image),
  (2134, lA 2134 40),
  (2135, lCallK 2135 1 dK_image),
  (2138, lSame 2238)]
theorem oL_48 (L : Nat) (xs : Nat → Int32) (l : Launch) : AllL L xs l (cL_48 L xs) := by
  refine akL (kl_aload (k0 := 1) (.inr (.inl ⟨rfl, rfl⟩)) (by decide +kernel)) ?_
  refine akL (kl_callF (fun E' h => kF_image h l) qF_image ck10 kd0 iF_image qiF_image qsF_image (by decide) qlF_image (by decide +kernel)) ?_
  refine akL (kl_aload (k0 := 2) (.inr (.inr ⟨rfl, rfl⟩)) (by decide +kernel)) ?_
  refine akL (kl_callK (fun E' h => kK_image h l) qK_image ck11 kd40 iK_image qiK_image qsK_image (by decide) qlK_image (by decide +kernel)) ?_
  refine akL (kl_same (off := 100) (by decide) (by decide +kernel)) ?_
  exact trivial
set_option maxRecDepth 1000000 in
theorem eL_48 (L : Nat) (xs : Nat → Int32) (K : SL → Option Unit) (i : Int32) (M N : Mem) : runL (cL_48 L xs) K 100 2130 (i, [], M, N) = (mF_image M).bind fun q1 => (mK_image N).bind fun q2 => if q1.1 = q2.1 then K (i, [], q1.2, q2.2) else none := id rfl
theorem gL_48 {L p B : Nat} {xs : Nat → Int32} {M N : Mem} {K : SL → Option Unit} (hL : L ≤ 384) (hp : p + 6 ≤ L) (hB : B < 10000) (h : Rel B M N) (hK : ∀ M' N', Rel (B + 1) M' N' → K (nI p, [], M', N') = some ()) : runL (cL_48 L xs) K 100 2130 (nI p, [], M, N) = some () := by
  rw [eL_48]
  obtain ⟨r, M1, N1, e1, e2, h1⟩ := s_image h 
  rw [e1]
  simp only [Option.bind_some]
  rw [e2]
  simp only [Option.bind_some, if_true]
  exact hK M1 N1 h1
def cL_49 (L : Nat) (xs : Nat → Int32) : List (Nat × StL) := [(2143, lA 2143 0),
  (2144, lCallF 2144 1 dF_restore),
  (2147, lA 2147 40),
  (2148, lCallK 2148 1 dK_restore),
  (2151, lSame 2238)]
theorem oL_49 (L : Nat) (xs : Nat → Int32) (l : Launch) : AllL L xs l (cL_49 L xs) := by
  refine akL (kl_aload (k0 := 1) (.inr (.inl ⟨rfl, rfl⟩)) (by decide +kernel)) ?_
  refine akL (kl_callF (fun E' h => kF_restore h l) qF_restore ck10 kd0 iF_restore qiF_restore qsF_restore (by decide) qlF_restore (by decide +kernel)) ?_
  refine akL (kl_aload (k0 := 2) (.inr (.inr ⟨rfl, rfl⟩)) (by decide +kernel)) ?_
  refine akL (kl_callK (fun E' h => kK_restore h l) qK_restore ck11 kd40 iK_restore qiK_restore qsK_restore (by decide) qlK_restore (by decide +kernel)) ?_
  refine akL (kl_same (off := 87) (by decide) (by decide +kernel)) ?_
  exact trivial
set_option maxRecDepth 1000000 in
theorem eL_49 (L : Nat) (xs : Nat → Int32) (K : SL → Option Unit) (i : Int32) (M N : Mem) : runL (cL_49 L xs) K 100 2143 (i, [], M, N) = (mF_restore M).bind fun q1 => (mK_restore N).bind fun q2 => if q1.1 = q2.1 then K (i, [], q1.2, q2.2) else none := id rfl
theorem gL_49 {L p B : Nat} {xs : Nat → Int32} {M N : Mem} {K : SL → Option Unit} (hL : L ≤ 384) (hp : p + 6 ≤ L) (hB : B < 10000) (h : Rel B M N) (hK : ∀ M' N', Rel (B + 1) M' N' → K (nI p, [], M', N') = some ()) : runL (cL_49 L xs) K 100 2143 (nI p, [], M, N) = some () := by
  rw [eL_49]
  obtain ⟨r, M1, N1, e1, e2, h1⟩ := s_restore h 
  rw [e1]
  simp only [Option.bind_some]
  rw [e2]
  simp only [Option.bind_some, if_true]
  exact hK M1 N1 h1
def cL_50 (L : Nat) (xs : Nat → Int32) : List (Nat × StL) := [(2156, lA 2156 0),
  (2157, lA 2157 99),
  (2158, lI 2158),
  (2159, lC 2159 1 1),
  (2160, lBin 2160 (fun x y => x + y)),
  (2161, lAt 2161 L xs),
  (2162, lCallF 2162 2 dF_tell),
  (2165, lA 2165 40),
  (2166, lA 2166 99),
  (2167, lI 2167),
  (2168, lC 2168 1 1),
  (2169, lBin 2169 (fun x y => x + y)),
  (2170, lAt 2170 L xs),
  (2171, lCallK 2171 2 dK_tell),
  (2174, lSame 2238)]
theorem oL_50 (L : Nat) (xs : Nat → Int32) (l : Launch) : AllL L xs l (cL_50 L xs) := by
  refine akL (kl_aload (k0 := 1) (.inr (.inl ⟨rfl, rfl⟩)) (by decide +kernel)) ?_
  refine akL (kl_aload (k0 := 0) (.inl ⟨rfl, rfl⟩) (by decide +kernel)) ?_
  refine akL (kl_iload (k0 := 3) rfl (by decide +kernel)) ?_
  refine akL (kl_const (ins := .iconst 1) (by decide +kernel) (.inl ⟨1, rfl, rfl, by decide⟩)) ?_
  refine akL (kl_iadd (by decide +kernel)) ?_
  refine akL (kl_at (by decide +kernel)) ?_
  refine akL (kl_callF (fun E' h => kF_tell h l) qF_tell ck10 kd0 iF_tell qiF_tell qsF_tell (by decide) qlF_tell (by decide +kernel)) ?_
  refine akL (kl_aload (k0 := 2) (.inr (.inr ⟨rfl, rfl⟩)) (by decide +kernel)) ?_
  refine akL (kl_aload (k0 := 0) (.inl ⟨rfl, rfl⟩) (by decide +kernel)) ?_
  refine akL (kl_iload (k0 := 3) rfl (by decide +kernel)) ?_
  refine akL (kl_const (ins := .iconst 1) (by decide +kernel) (.inl ⟨1, rfl, rfl, by decide⟩)) ?_
  refine akL (kl_iadd (by decide +kernel)) ?_
  refine akL (kl_at (by decide +kernel)) ?_
  refine akL (kl_callK (fun E' h => kK_tell h l) qK_tell ck11 kd40 iK_tell qiK_tell qsK_tell (by decide) qlK_tell (by decide +kernel)) ?_
  refine akL (kl_same (off := 64) (by decide) (by decide +kernel)) ?_
  exact trivial
set_option maxRecDepth 1000000 in
theorem eL_50 (L : Nat) (xs : Nat → Int32) (K : SL → Option Unit) (i : Int32) (M N : Mem) : runL (cL_50 L xs) K 100 2156 (i, [], M, N) = ixx (i + 1) L fun j1 => (mF_tell (xs j1) M).bind fun q2 => ixx (i + 1) L fun j3 => (mK_tell (xs j3) N).bind fun q4 => if q2.1 = q4.1 then K (i, [], q2.2, q4.2) else none := id rfl
theorem gL_50 {L p B : Nat} {xs : Nat → Int32} {M N : Mem} {K : SL → Option Unit} (hL : L ≤ 384) (hp : p + 6 ≤ L) (hB : B < 10000) (h : Rel B M N) (hK : ∀ M' N', Rel (B + 1) M' N' → K (nI p, [], M', N') = some ()) : runL (cL_50 L xs) K 100 2156 (nI p, [], M, N) = some () := by
  rw [eL_50]
  have i1 : ∀ F : Nat → Option Unit, ixx (nI p + 1) L F = F (p + 1) := fun F => ixL hL hp (c := 1) (by decide) F
  simp only [i1]
  obtain ⟨r, M1, N1, e1, e2, h1⟩ := s_tell h (xs (p + 1))
  rw [e1]
  simp only [Option.bind_some]
  rw [e2]
  simp only [Option.bind_some, if_true]
  exact hK M1 N1 h1
def cL_51 (L : Nat) (xs : Nat → Int32) : List (Nat × StL) := [(2179, lA 2179 0),
  (2180, lCallF 2180 1 dF_judge),
  (2183, lA 2183 40),
  (2184, lCallK 2184 1 dK_judge),
  (2187, lSame 2238)]
theorem oL_51 (L : Nat) (xs : Nat → Int32) (l : Launch) : AllL L xs l (cL_51 L xs) := by
  refine akL (kl_aload (k0 := 1) (.inr (.inl ⟨rfl, rfl⟩)) (by decide +kernel)) ?_
  refine akL (kl_callF (fun E' h => kF_judge h l) qF_judge ck10 kd0 iF_judge qiF_judge qsF_judge (by decide) qlF_judge (by decide +kernel)) ?_
  refine akL (kl_aload (k0 := 2) (.inr (.inr ⟨rfl, rfl⟩)) (by decide +kernel)) ?_
  refine akL (kl_callK (fun E' h => kK_judge h l) qK_judge ck11 kd40 iK_judge qiK_judge qsK_judge (by decide) qlK_judge (by decide +kernel)) ?_
  refine akL (kl_same (off := 51) (by decide) (by decide +kernel)) ?_
  exact trivial
set_option maxRecDepth 1000000 in
theorem eL_51 (L : Nat) (xs : Nat → Int32) (K : SL → Option Unit) (i : Int32) (M N : Mem) : runL (cL_51 L xs) K 100 2179 (i, [], M, N) = (mF_judge M).bind fun q1 => (mK_judge N).bind fun q2 => if q1.1 = q2.1 then K (i, [], q1.2, q2.2) else none := id rfl
theorem gL_51 {L p B : Nat} {xs : Nat → Int32} {M N : Mem} {K : SL → Option Unit} (hL : L ≤ 384) (hp : p + 6 ≤ L) (hB : B < 10000) (h : Rel B M N) (hK : ∀ M' N', Rel (B + 1) M' N' → K (nI p, [], M', N') = some ()) : runL (cL_51 L xs) K 100 2179 (nI p, [], M, N) = some () := by
  rw [eL_51]
  obtain ⟨r, M1, N1, e1, e2, h1⟩ := s_judge h 
  rw [e1]
  simp only [Option.bind_some]
  rw [e2]
  simp only [Option.bind_some, if_true]
  exact hK M1 N1 h1
def cL_52 (L : Nat) (xs : Nat → Int32) : List (Nat × StL) := [(2192, lA 2192 0),
  (2193, lA 2193 99),
  (2194, lI 2194),
  (2195, lC 2195 1 1),
  (2196, lBin 2196 (fun x y => x + y)),
  (2197, lAt 2197 L xs),
  (2198, lCallF 2198 2 dF_count),
  (2201, lA 2201 40),
  (2202, lA 2202 99),
  (2203, lI 2203),
  (2204, lC 2204 1 1),
  (2205, lBin 2205 (fun x y => x + y)),
  (2206, lAt 2206 L xs),
  (2207, lCallK 2207 2 dK_count),
  (2210, lSame 2238)]
theorem oL_52 (L : Nat) (xs : Nat → Int32) (l : Launch) : AllL L xs l (cL_52 L xs) := by
  refine akL (kl_aload (k0 := 1) (.inr (.inl ⟨rfl, rfl⟩)) (by decide +kernel)) ?_
  refine akL (kl_aload (k0 := 0) (.inl ⟨rfl, rfl⟩) (by decide +kernel)) ?_
  refine akL (kl_iload (k0 := 3) rfl (by decide +kernel)) ?_
  refine akL (kl_const (ins := .iconst 1) (by decide +kernel) (.inl ⟨1, rfl, rfl, by decide⟩)) ?_
  refine akL (kl_iadd (by decide +kernel)) ?_
  refine akL (kl_at (by decide +kernel)) ?_
  refine akL (kl_callF (fun E' h => kF_count h l) qF_count ck10 kd0 iF_count qiF_count qsF_count (by decide) qlF_count (by decide +kernel)) ?_
  refine akL (kl_aload (k0 := 2) (.inr (.inr ⟨rfl, rfl⟩)) (by decide +kernel)) ?_
  refine akL (kl_aload (k0 := 0) (.inl ⟨rfl, rfl⟩) (by decide +kernel)) ?_
  refine akL (kl_iload (k0 := 3) rfl (by decide +kernel)) ?_
  refine akL (kl_const (ins := .iconst 1) (by decide +kernel) (.inl ⟨1, rfl, rfl, by decide⟩)) ?_
  refine akL (kl_iadd (by decide +kernel)) ?_
  refine akL (kl_at (by decide +kernel)) ?_
  refine akL (kl_callK (fun E' h => kK_count h l) qK_count ck11 kd40 iK_count qiK_count qsK_count (by decide) qlK_count (by decide +kernel)) ?_
  refine akL (kl_same (off := 28) (by decide) (by decide +kernel)) ?_
  exact trivial
set_option maxRecDepth 1000000 in
theorem eL_52 (L : Nat) (xs : Nat → Int32) (K : SL → Option Unit) (i : Int32) (M N : Mem) : runL (cL_52 L xs) K 100 2192 (i, [], M, N) = ixx (i + 1) L fun j1 => (mF_count (xs j1) M).bind fun q2 => ixx (i + 1) L fun j3 => (mK_count (xs j3) N).bind fun q4 => if q2.1 = q4.1 then K (i, [], q2.2, q4.2) else none := id rfl
theorem gL_52 {L p B : Nat} {xs : Nat → Int32} {M N : Mem} {K : SL → Option Unit} (hL : L ≤ 384) (hp : p + 6 ≤ L) (hB : B < 10000) (h : Rel B M N) (hK : ∀ M' N', Rel (B + 1) M' N' → K (nI p, [], M', N') = some ()) : runL (cL_52 L xs) K 100 2192 (nI p, [], M, N) = some () := by
  rw [eL_52]
  have i1 : ∀ F : Nat → Option Unit, ixx (nI p + 1) L F = F (p + 1) := fun F => ixL hL hp (c := 1) (by decide) F
  simp only [i1]
  obtain ⟨r, M1, N1, e1, e2, h1⟩ := s_count h (xs (p + 1))
  rw [e1]
  simp only [Option.bind_some]
  rw [e2]
  simp only [Option.bind_some, if_true]
  exact hK M1 N1 h1
def cL_53 (L : Nat) (xs : Nat → Int32) : List (Nat × StL) := [(2215, lA 2215 0),
  (2216, lA 2216 99),
  (2217, lI 2217),
  (2218, lC 2218 1 1),
  (2219, lBin 2219 (fun x y => x + y)),
  (2220, lAt 2220 L xs),
  (2221, lCallF 2221 2 dF_found),
  (2224, lA 2224 40),
  (2225, lA 2225 99),
  (2226, lI 2226),
  (2227, lC 2227 1 1),
  (2228, lBin 2228 (fun x y => x + y)),
  (2229, lAt 2229 L xs),
  (2230, lCallK 2230 2 dK_found),
  (2233, lSame 2238)]
theorem oL_53 (L : Nat) (xs : Nat → Int32) (l : Launch) : AllL L xs l (cL_53 L xs) := by
  refine akL (kl_aload (k0 := 1) (.inr (.inl ⟨rfl, rfl⟩)) (by decide +kernel)) ?_
  refine akL (kl_aload (k0 := 0) (.inl ⟨rfl, rfl⟩) (by decide +kernel)) ?_
  refine akL (kl_iload (k0 := 3) rfl (by decide +kernel)) ?_
  refine akL (kl_const (ins := .iconst 1) (by decide +kernel) (.inl ⟨1, rfl, rfl, by decide⟩)) ?_
  refine akL (kl_iadd (by decide +kernel)) ?_
  refine akL (kl_at (by decide +kernel)) ?_
  refine akL (kl_callF (fun E' h => kF_found h l) qF_found ck10 kd0 iF_found qiF_found qsF_found (by decide) qlF_found (by decide +kernel)) ?_
  refine akL (kl_aload (k0 := 2) (.inr (.inr ⟨rfl, rfl⟩)) (by decide +kernel)) ?_
  refine akL (kl_aload (k0 := 0) (.inl ⟨rfl, rfl⟩) (by decide +kernel)) ?_
  refine akL (kl_iload (k0 := 3) rfl (by decide +kernel)) ?_
  refine akL (kl_const (ins := .iconst 1) (by decide +kernel) (.inl ⟨1, rfl, rfl, by decide⟩)) ?_
  refine akL (kl_iadd (by decide +kernel)) ?_
  refine akL (kl_at (by decide +kernel)) ?_
  refine akL (kl_callK (fun E' h => kK_found h l) qK_found ck11 kd40 iK_found qiK_found qsK_found (by decide) qlK_found (by decide +kernel)) ?_
  refine akL (kl_same (off := 5) (by decide) (by decide +kernel)) ?_
  exact trivial
set_option maxRecDepth 1000000 in
theorem eL_53 (L : Nat) (xs : Nat → Int32) (K : SL → Option Unit) (i : Int32) (M N : Mem) : runL (cL_53 L xs) K 100 2215 (i, [], M, N) = ixx (i + 1) L fun j1 => (mF_found (xs j1) M).bind fun q2 => ixx (i + 1) L fun j3 => (mK_found (xs j3) N).bind fun q4 => if q2.1 = q4.1 then K (i, [], q2.2, q4.2) else none := id rfl
theorem gL_53 {L p B : Nat} {xs : Nat → Int32} {M N : Mem} {K : SL → Option Unit} (hL : L ≤ 384) (hp : p + 6 ≤ L) (hB : B < 10000) (h : Rel B M N) (hK : ∀ M' N', Rel (B + 1) M' N' → K (nI p, [], M', N') = some ()) : runL (cL_53 L xs) K 100 2215 (nI p, [], M, N) = some () := by
  rw [eL_53]
  have i1 : ∀ F : Nat → Option Unit, ixx (nI p + 1) L F = F (p + 1) := fun F => ixL hL hp (c := 1) (by decide) F
  simp only [i1]
  obtain ⟨r, M1, N1, e1, e2, h1⟩ := s_found h (xs (p + 1))
  rw [e1]
  simp only [Option.bind_some]
  rw [e2]
  simp only [Option.bind_some, if_true]
  exact hK M1 N1 h1
