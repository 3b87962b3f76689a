/-! ===== parts; a new company ===== -/
theorem S_total_4 {M N : Mem} {s n0 : Nat} (h : shV M N s n0) : ∀ (d i n : Nat) (x : Int32), i + d = n0 → d < n → mS_total_4 n s x (nI i) M = some (smF (fun k => N 66 0 0 (24 * s + k)) d i x, M) := by
  obtain ⟨h1, h2, h3, h4⟩ := h
  intro d
  induction d with
  | zero =>
    intro i n x hi hn
    obtain ⟨m, rfl⟩ : ∃ m, n = m + 1 := ⟨n - 1, by omega⟩
    show mS_total_4b (mS_total_4 m) s x (nI i) M = _
    unfold mS_total_4b
    rw [h1, if_neg (nI_nlt (by omega) (by omega))]
    rfl
  | succ d ih =>
    intro i n x hi hn
    obtain ⟨m, rfl⟩ : ∃ m, n = m + 1 := ⟨n - 1, by omega⟩
    show mS_total_4b (mS_total_4 m) s x (nI i) M = _
    unfold mS_total_4b
    rw [h1, if_pos (nI_lt (by omega) (by omega)), ixx_nI (by omega) (by decide), nI_1, ih _ _ _ (by omega) (by omega), h4 i (by omega)]
    rfl
def prL (g : Nat → Int32) (sum tot : Int32) : Nat → Nat → Int32 → Int32
  | 0, _, x => x
  | d + 1, i, x => prL g sum tot d (i + 1) (x - sum * g i / tot)
theorem prL_s (g : Nat → Int32) (sum tot : Int32) (d i : Nat) (x : Int32) : prL g sum tot (d + 1) i x = prL g sum tot d (i + 1) (x - sum * g i / tot) := rfl
def prA (g : Nat → Int32) (sum tot own i0 : Int32) : Nat → Nat → Int32 → Int32
  | 0, _, x => x
  | d + 1, i, x => prA g sum tot own i0 d (i + 1) (if sum * g i - sum * g i / tot * tot ≤ own then (if sum * g i - sum * g i / tot * tot = own then (if nI i < i0 then x + 1 else x) else x) else x + 1)
theorem prA_s (g : Nat → Int32) (sum tot own i0 : Int32) (d i : Nat) (x : Int32) : prA g sum tot own i0 (d + 1) i x = prA g sum tot own i0 d (i + 1) (if sum * g i - sum * g i / tot * tot ≤ own then (if sum * g i - sum * g i / tot * tot = own then (if nI i < i0 then x + 1 else x) else x) else x + 1) := rfl
theorem P_partOf_28 {M N : Mem} {s n0 : Nat} (h : shV M N s n0) (sum : Int32) {tot : Int32} (ht : ¬ tot = 0) {i0 : Nat} (hi0 : i0 < 24) (own : Int32) : ∀ (d i n : Nat) (l a : Int32), i + d = n0 → d < n → mP_partOf_28 n sum s tot (nI i0) l a own (nI i) M = some (if prA (fun k => N 66 0 0 (24 * s + k)) sum tot own (nI i0) d i a < prL (fun k => N 66 0 0 (24 * s + k)) sum tot d i l then sum * N 66 0 0 (24 * s + i0) / tot + 1 else sum * N 66 0 0 (24 * s + i0) / tot, M) := by
  obtain ⟨h1, h2, h3, h4⟩ := h
  intro d
  induction d with
  | zero =>
    intro i n l a hi hn
    obtain ⟨m, rfl⟩ : ∃ m, n = m + 1 := ⟨n - 1, by omega⟩
    show mP_partOf_28b (mP_partOf_28 m) sum s tot (nI i0) l a own (nI i) M = _
    unfold mP_partOf_28b
    rw [h1, if_neg (nI_nlt (by omega) (by omega)), ixx_nI hi0 (by decide), if_neg ht, h4 i0 hi0, Int32.add_zero]
    show _ = some (if a < l then _ else _, M)
    split <;> rfl
  | succ d ih =>
    intro i n l a hi hn
    obtain ⟨m, rfl⟩ : ∃ m, n = m + 1 := ⟨n - 1, by omega⟩
    show mP_partOf_28b (mP_partOf_28 m) sum s tot (nI i0) l a own (nI i) M = _
    unfold mP_partOf_28b
    simp only [h1, if_pos (nI_lt (show i < n0 by omega) (show n0 < 2 ^ 31 by omega)), ixx_nI (show i < 24 by omega) (show (24 : Nat) < 2 ^ 31 by decide), if_neg ht, nI_1, h4 i (show i < 24 by omega)]
    rw [ih _ _ _ _ (by omega) (by omega), ih _ _ _ _ (by omega) (by omega), prA_s, prL_s]
    by_cases z1 : sum * N 66 0 0 (24 * s + i) - sum * N 66 0 0 (24 * s + i) / tot * tot ≤ own
    · by_cases z2 : sum * N 66 0 0 (24 * s + i) - sum * N 66 0 0 (24 * s + i) / tot * tot = own
      · by_cases z3 : nI i < nI i0
        · simp only [if_pos z1, if_pos z2, if_pos z3]
        · simp only [if_pos z1, if_pos z2, if_neg z3]
      · simp only [if_pos z1, if_neg z2]
    · simp only [if_neg z1]
theorem K_parts_231 {M N : Mem} {s n0 : Nat} (hs : s < 4) (h : shV M N s n0) (sum : Int32) {tot : Int32} (ht : ¬ tot = 0) {i0 : Nat} (hi0 : i0 < 24) (own l : Int32) : ∀ (d i n : Nat) (a : Int32), i + d = n0 → d < n → mK_parts_231 n sum (nI s) (nI i0) tot l own a (nI i) N = some (if prA (fun k => N 66 0 0 (24 * s + k)) sum tot own (nI i0) d i a < l then sum * N 66 0 0 (24 * s + i0) / tot + 1 else sum * N 66 0 0 (24 * s + i0) / tot, N) := by
  obtain ⟨h1, h2, h3, h4⟩ := h
  intro d
  induction d with
  | zero =>
    intro i n a hi hn
    obtain ⟨m, rfl⟩ : ∃ m, n = m + 1 := ⟨n - 1, by omega⟩
    show mK_parts_231b (mK_parts_231 m) sum (nI s) (nI i0) tot l own a (nI i) N = _
    unfold mK_parts_231b
    have i24 : ∀ {F : Nat → Option (Int32 × Mem)}, ixx ((24 * nI s) + nI i0) 96 F = F (24 * s + i0) := fun {F} => ixx_e (ix24 s i0) (by omega) (by decide)
    rw [ixx_nI hs (by decide), h2, if_neg (nI_nlt (by omega) (by omega)), i24, if_neg ht, Int32.add_zero]
    show _ = some (if a < l then _ else _, N)
    split <;> rfl
  | succ d ih =>
    intro i n a hi hn
    obtain ⟨m, rfl⟩ : ∃ m, n = m + 1 := ⟨n - 1, by omega⟩
    show mK_parts_231b (mK_parts_231 m) sum (nI s) (nI i0) tot l own a (nI i) N = _
    unfold mK_parts_231b
    have i24 : ∀ {F : Nat → Option (Int32 × Mem)}, ixx ((24 * nI s) + nI i) 96 F = F (24 * s + i) := fun {F} => ixx_e (ix24 s i) (by omega) (by decide)
    rw [ixx_nI hs (by decide), h2, if_pos (nI_lt (by omega) (by omega)), i24, if_neg ht, nI_1, Int32.add_zero]
    simp only [ih _ _ _ (show i + 1 + d = n0 by omega) (show d < m by omega)]
    rw [prA_s]
    by_cases z1 : sum * N 66 0 0 (24 * s + i) - sum * N 66 0 0 (24 * s + i) / tot * tot ≤ own
    · by_cases z2 : sum * N 66 0 0 (24 * s + i) - sum * N 66 0 0 (24 * s + i) / tot * tot = own
      · by_cases z3 : nI i < nI i0
        · simp only [if_pos z1, if_pos z2, if_pos z3]
        · simp only [if_pos z1, if_pos z2, if_neg z3]
      · simp only [if_pos z1, if_neg z2]
    · simp only [if_neg z1]
theorem K_parts_168 {M N : Mem} {s n0 : Nat} (hs : s < 4) (h : shV M N s n0) (sum : Int32) {tot : Int32} (ht : ¬ tot = 0) {i0 : Nat} (hi0 : i0 < 24) : ∀ (d i n : Nat) (l : Int32), i + d = n0 → d < n → mK_parts_168 n sum (nI s) (nI i0) tot l (nI i) N = some (if prA (fun k => N 66 0 0 (24 * s + k)) sum tot (sum * N 66 0 0 (24 * s + i0) - sum * N 66 0 0 (24 * s + i0) / tot * tot) (nI i0) n0 0 0 < prL (fun k => N 66 0 0 (24 * s + k)) sum tot d i l then sum * N 66 0 0 (24 * s + i0) / tot + 1 else sum * N 66 0 0 (24 * s + i0) / tot, N) := by
  have h' := h
  obtain ⟨h1, h2, h3, h4⟩ := h
  intro d
  induction d with
  | zero =>
    intro i n l hi hn
    obtain ⟨m, rfl⟩ : ∃ m, n = m + 1 := ⟨n - 1, by omega⟩
    show mK_parts_168b (mK_parts_168 m) (mK_parts_231 fuel) sum (nI s) (nI i0) tot l (nI i) N = _
    unfold mK_parts_168b
    have i24 : ∀ {F : Nat → Option (Int32 × Mem)}, ixx ((24 * nI s) + nI i0) 96 F = F (24 * s + i0) := fun {F} => ixx_e (ix24 s i0) (by omega) (by decide)
    rw [ixx_nI hs (by decide), h2, if_neg (nI_nlt (by omega) (by omega)), i24, if_neg ht]
    exact K_parts_231 hs h' sum ht hi0 _ l n0 0 fuel 0 (by omega) (by unfold fuel; omega)
  | succ d ih =>
    intro i n l hi hn
    obtain ⟨m, rfl⟩ : ∃ m, n = m + 1 := ⟨n - 1, by omega⟩
    show mK_parts_168b (mK_parts_168 m) (mK_parts_231 fuel) sum (nI s) (nI i0) tot l (nI i) N = _
    unfold mK_parts_168b
    have i24 : ∀ {F : Nat → Option (Int32 × Mem)}, ixx ((24 * nI s) + nI i) 96 F = F (24 * s + i) := fun {F} => ixx_e (ix24 s i) (by omega) (by decide)
    rw [ixx_nI hs (by decide), h2, if_pos (nI_lt (by omega) (by omega)), i24, if_neg ht, nI_1, ih _ _ _ (by omega) (by omega), prL_s]
theorem K_parts_47 {M N : Mem} {s n0 : Nat} (hs : s < 4) (h : shV M N s n0) (sum x3 : Int32) : ∀ (d i n : Nat) (x4 x5 : Int32), i + d = n0 → (x5 = 0 ∨ x5 = 1) → d < n → mK_parts_47 n sum (nI s) x3 x4 x5 (nI i) N = if x5 = 0 then mK_finds 5 N else if allW (fun k => N 66 0 0 (24 * s + k)) 0 999 d i = 0 then mK_finds 5 N else (if smF (fun k => N 66 0 0 (24 * s + k)) d i x4 = 0 then mK_finds 5 N else if 0 ≤ x3 ∧ x3 ≤ nI n0 - 1 then mK_parts_168 fuel sum (nI s) x3 (smF (fun k => N 66 0 0 (24 * s + k)) d i x4) sum 0 N else mK_finds 1 N) := by
  obtain ⟨h1, h2, h3, h4⟩ := h
  intro d
  induction d with
  | zero =>
    intro i n x4 x5 hi hx hn
    obtain ⟨m, rfl⟩ : ∃ m, n = m + 1 := ⟨n - 1, by omega⟩
    show mK_parts_47b (mK_parts_47 m) (mK_parts_168 fuel) sum (nI s) x3 x4 x5 (nI i) N = _
    unfold mK_parts_47b
    rw [ixx_nI hs (by decide), h2, if_neg (nI_nlt (by omega) (by omega)), ixx_nI hs (by decide), h2, K_in_eq]
    simp only [Option.bind_some, bI_ite, bindE]
    rw [show allW (fun k => N 66 0 0 (24 * s + k)) 0 999 0 i = 1 from rfl, if_neg (show ¬ (1 : Int32) = 0 by decide)]
    rfl
  | succ d ih =>
    intro i n x4 x5 hi hx hn
    obtain ⟨m, rfl⟩ : ∃ m, n = m + 1 := ⟨n - 1, by omega⟩
    show mK_parts_47b (mK_parts_47 m) (mK_parts_168 fuel) sum (nI s) x3 x4 x5 (nI i) N = _
    unfold mK_parts_47b
    have i24 : ∀ {F : Nat → Option (Int32 × Mem)}, ixx ((24 * nI s) + nI i) 96 F = F (24 * s + i) := fun {F} => ixx_e (ix24 s i) (by omega) (by decide)
    rw [ixx_nI hs (by decide), h2, if_pos (nI_lt (by omega) (by omega)), i24, K_in_eq]
    simp only [Option.bind_some, bI_ite, i24, nI_1, Int32.add_zero]
    rw [ih _ _ _ 0 (by omega) (.inl rfl) (by omega), ih _ _ _ 1 (by omega) (.inr rfl) (by omega), allW_s, smF_s]
    rcases hx with rfl | rfl
    · simp only [if_true]
    · simp only [show ((1 : Int32) = 0) = False from eq_false (by decide), if_false, if_true]
      by_cases z : 0 ≤ N 66 0 0 (24 * s + i) ∧ N 66 0 0 (24 * s + i) ≤ 999
      · simp only [if_pos z]
      · simp only [if_neg z, if_true]
theorem s_parts {B : Nat} {M N : Mem} (h : Rel B M N) (x1 x2 x3 : Int32) : Sim (Rel (B + 1)) (mF_parts x1 x2 x3 M) (mK_parts x1 x2 x3 N) := by
  unfold mF_parts mK_parts mK_partsb mS_total mS_totalb mP_partOf mP_partOfb
  simp only [F_within_eq, K_in_eq, F_isSheet_eq, K_isSheet_eq, S_missing_eq, Option.bind_some, bI_ite, bindE]
  refine Sim.ite (fun hp => ?_) (fun _ => Sim.f1 h)
  refine Sim.ite (fun hq => ?_) (fun _ => Sim.f1 h)
  obtain ⟨s, hs, rfl⟩ := in_lit0 (b := 3) (by decide) hq
  have hs4 : s < 4 := by omega
  obtain ⟨n, hv⟩ := h.2.2.sheet hs4
  have hv' := hv
  obtain ⟨h1, h2, h3, h4⟩ := hv'
  simp only [ixx_nI hs4 (show (4 : Nat) < 2 ^ 31 by decide), (h.2.2.2.2.1 s hs4).1]
  refine Sim.ite (fun _ => Sim.f2 h) (fun _ => ?_)
  have t1 := S_total_4 hv n 0 fuel 0 (by omega) (by unfold fuel; omega)
  have t2 := K_parts_47 hs4 hv x1 x3 n 0 fuel 0 1 (by omega) (.inr rfl) (by unfold fuel; omega)
  rw [show mS_total_4 fuel s 0 0 M = _ from t1, show mK_parts_47 fuel x1 (nI s) x3 0 1 0 N = _ from t2, if_neg (show ¬ (1 : Int32) = 0 by decide)]
  simp only [Option.bind_some, S_allWithin_eq hv, h1]
  refine Sim.ite (fun _ => Sim.f5 h) (fun hw => ?_)
  have hall := allW_all hw
  have hT := smF_nI (g := (fun k => N 66 0 0 (24 * s + k))) (q := fun k => (N 66 0 0 (24 * s + k)).toNatClampNeg) n 0 0 (fun k _ hk => by
    obtain ⟨j, hj, e⟩ := in_lit0 (b := 999) (by decide) (hall k (by omega) hk)
    show N 66 0 0 (24 * s + k) = _
    rw [e, nI_clamp (by omega)])
  have hbd : fb_sm (fun k => (N 66 0 0 (24 * s + (0 + k))).toNatClampNeg) n ≤ n * 999 := fb_sm_bound (fun k hk => by
    obtain ⟨j, hj, e⟩ := in_lit0 (b := 999) (by decide) (hall k (by omega) (by omega))
    show (N 66 0 0 (24 * s + (0 + k))).toNatClampNeg ≤ 999
    rw [Nat.zero_add, e, nI_clamp (by omega)]
    omega)
  have hbd2 : n * 999 ≤ 24000 := by omega
  generalize hTT : 0 + fb_sm (fun k => (N 66 0 0 (24 * s + (0 + k))).toNatClampNeg) n = T at hT
  have hT' : smF (fun k => N 66 0 0 (24 * s + k)) n 0 0 = nI T := hT
  rw [hT']
  have hT3 : T ≤ 24000 := by omega
  by_cases hz : T = 0
  · subst hz
    rw [if_pos (by decide), if_pos (by decide)]
    exact Sim.f5 h
  have z1 : ¬ nI T ≤ 0 := nI_nle (by omega) (by omega)
  have z2 : ¬ nI T = 0 := nI_ne0 (by omega) (by omega)
  rw [if_neg z1, if_neg z2]
  refine Sim.ite (fun hr => ?_) (fun _ => Sim.f1 h)
  obtain ⟨i0, hi0, rfl⟩ := (in_cnt (by omega)).mp hr
  have t3 := K_parts_168 hs4 hv x1 z2 (show i0 < 24 by omega) n 0 fuel x1 (by omega) (by unfold fuel; omega)
  have t4 := P_partOf_28 hv x1 z2 (show i0 < 24 by omega) (x1 * N 66 0 0 (24 * s + i0) - x1 * N 66 0 0 (24 * s + i0) / nI T * nI T) n 0 fuel x1 0 (by omega) (by unfold fuel; omega)
  rw [if_neg z1, ixx_nI (by omega) (by decide), if_neg z2, h4 i0 (by omega), show mK_parts_168 fuel x1 (nI s) (nI i0) (nI T) x1 0 N = _ from t3, show mP_partOf_28 fuel x1 s (nI T) (nI i0) x1 0 (x1 * N 66 0 0 (24 * s + i0) - x1 * N 66 0 0 (24 * s + i0) / nI T * nI T) 0 M = _ from t4]
  exact Sim.ret h.up1
/-! a new company -/
theorem C_begin_63 (w c : Nat) (M : Mem) : ∀ (d i n : Nat), i + d = 8 → d < n → mC_begin_63 n w c (nI i) (fm M 8 w c 0 i (fun _ => 0)) = some (fm M 8 w c 0 8 (fun _ => 0)) := by
  intro d
  induction d with
  | zero =>
    intro i n  hi hn
    obtain ⟨m, rfl⟩ : ∃ m, n = m + 1 := ⟨n - 1, by omega⟩
    show mC_begin_63b (mC_begin_63 m) w c (nI i) _ = _
    unfold mC_begin_63b
    rw [if_neg (show ¬ nI i < (8 : Int32) from nI_nlt (b := 8) (by omega) (by omega)), show i = 8 by omega]
  | succ d ih =>
    intro i n  hi hn
    obtain ⟨m, rfl⟩ : ∃ m, n = m + 1 := ⟨n - 1, by omega⟩
    show mC_begin_63b (mC_begin_63 m) w c (nI i) _ = _
    unfold mC_begin_63b
    rw [if_pos (show nI i < (8 : Int32) from nI_lt (b := 8) (by omega) (by omega)), ixx_nI (by omega) (by decide), nI_1]
    have z := ih (i + 1) m (by omega) (by omega)
    rw [← fm_s0] at z
    exact z
theorem K_company_136 {c : Nat} (hc : c < 5) (N : Mem) : ∀ (d i n : Nat), i + d = 8 → d < n → mK_company_136 n (nI c) (nI i) (fm N 41 0 0 (1392 + 8 * c) i (fun _ => 0)) = some (nI c, fm N 41 0 0 (1392 + 8 * c) 8 (fun _ => 0)) := by
  intro d
  induction d with
  | zero =>
    intro i n  hi hn
    obtain ⟨m, rfl⟩ : ∃ m, n = m + 1 := ⟨n - 1, by omega⟩
    show mK_company_136b (mK_company_136 m) (nI c) (nI i) _ = _
    unfold mK_company_136b
    rw [if_neg (show ¬ nI i < (8 : Int32) from nI_nlt (b := 8) (by omega) (by omega)), show i = 8 by omega]
  | succ d ih =>
    intro i n  hi hn
    obtain ⟨m, rfl⟩ : ∃ m, n = m + 1 := ⟨n - 1, by omega⟩
    show mK_company_136b (mK_company_136 m) (nI c) (nI i) _ = _
    unfold mK_company_136b
    have i1 : ∀ {F : Nat → Option (Int32 × Mem)}, ixx ((1392 + (8 * nI c)) + nI i) 1502 F = F (1392 + 8 * c + i) := fun {F} => ixx_e (ix3 1392 8 c i) (by omega) (by decide)
    rw [if_pos (show nI i < (8 : Int32) from nI_lt (b := 8) (by omega) (by omega)), i1, nI_1]
    have z := ih (i + 1) m (by omega) (by omega)
    rw [← fm_s] at z
    exact z
def vCo (k : Nat) : Int32 := if k = 6 then -1 else if k = 7 then -1 else 0
theorem K_company_69 {c : Nat} (hc : c < 5) (N : Mem) (x1 x2 x3 : Int32) : ∀ (d i n : Nat), i + d = 24 → d < n → mK_company_69 n x1 x2 x3 (nI c) (nI i) (fm N 41 0 0 (100 + 24 * c) i vCo) = some (nI c, fm (up (up (up (fm N 41 0 0 (100 + 24 * c) 24 vCo) 41 0 0 (100 + 24 * c) x2) 41 0 0 (100 + 24 * c + 1) x3) 41 0 0 (100 + 24 * c + 2) x1) 41 0 0 (1392 + 8 * c) 8 (fun _ => 0)) := by
  intro d
  induction d with
  | zero =>
    intro i n  hi hn
    obtain ⟨m, rfl⟩ : ∃ m, n = m + 1 := ⟨n - 1, by omega⟩
    show mK_company_69b (mK_company_69 m) (mK_company_136 fuel) x1 x2 x3 (nI c) (nI i) _ = _
    unfold mK_company_69b
    rw [if_neg (show ¬ nI i < (24 : Int32) from nI_nlt (b := 24) (by omega) (by omega)), show i = 24 by omega]
    simp only [K_sets_0 hc, K_sets_1 hc, K_sets_2 hc, Option.bind_some]
    have z := K_company_136 hc (up (up (up (fm N 41 0 0 (100 + 24 * c) 24 vCo) 41 0 0 (100 + 24 * c) x2) 41 0 0 (100 + 24 * c + 1) x3) 41 0 0 (100 + 24 * c + 2) x1) 8 0 fuel (by omega) (by unfold fuel; omega)
    rw [fm_0] at z
    exact z
  | succ d ih =>
    intro i n  hi hn
    obtain ⟨m, rfl⟩ : ∃ m, n = m + 1 := ⟨n - 1, by omega⟩
    show mK_company_69b (mK_company_69 m) (mK_company_136 fuel) x1 x2 x3 (nI c) (nI i) _ = _
    unfold mK_company_69b
    rw [if_pos (show nI i < (24 : Int32) from nI_lt (b := 24) (by omega) (by omega)), K_sets_n hc (by omega), K_sets_n hc (by omega)]
    simp only [Option.bind_some, nI_1]
    have z := ih (i + 1) m (by omega) (by omega)
    rw [← fm_s] at z
    have e6 : (nI i = (6 : Int32)) ↔ i = 6 := nI_eq (b := 6) (by omega) (by decide)
    have e7 : (nI i = (7 : Int32)) ↔ i = 7 := nI_eq (b := 7) (by omega) (by decide)
    by_cases z6 : i = 6
    · rw [if_pos (e6.mpr z6)]
      rw [show vCo i = -1 by unfold vCo; rw [if_pos z6]] at z
      exact z
    · rw [if_neg (fun q => z6 (e6.mp q))]
      by_cases z7 : i = 7
      · rw [if_pos (e7.mpr z7)]
        rw [show vCo i = -1 by unfold vCo; rw [if_neg z6, if_pos z7]] at z
        exact z
      · rw [if_neg (fun q => z7 (e7.mp q))]
        rw [show vCo i = 0 by unfold vCo; rw [if_neg z6, if_neg z7]] at z
        exact z
/-- the fields of a new company -/
def cB (M : Mem) (c : Nat) (x1 x2 x3 : Int32) : Mem := (up (up (up (up (up (up (up (up (up (up (up (up M 6 0 c 0 x2) 6 0 c 1 x3) 6 0 c 2 0) 6 0 c 3 x1) 6 0 c 4 (-1)) 6 0 c 5 (-1)) 6 0 c 6 0) 6 0 c 7 0) 6 0 c 8 (-1)) 6 0 c 9 (-1)) 6 0 c 10 (-1)) 6 0 c 11 0)
theorem C_begin_eq (M : Mem) (c : Nat) (x1 x2 x3 : Int32) : mC_begin 0 c x1 x2 x3 M = some (fm (cB M c x1 x2 x3) 8 0 c 0 8 (fun _ => 0)) := by
  have z := C_begin_63 0 c (cB M c x1 x2 x3) 8 0 fuel (by omega) (by unfold fuel; omega)
  rw [fm_0] at z
  exact z
theorem cB_o {M : Mem} {c : Nat} {x1 x2 x3 : Int32} {r w i k : Nat} (h : ¬ (r = 6 ∧ w = 0 ∧ i = c)) : cB M c x1 x2 x3 r w i k = M r w i k := by
  unfold cB
  rw [up_ne (by omega), up_ne (by omega), up_ne (by omega), up_ne (by omega), up_ne (by omega), up_ne (by omega), up_ne (by omega), up_ne (by omega), up_ne (by omega), up_ne (by omega), up_ne (by omega), up_ne (by omega)]
theorem cB_k {M : Mem} {c : Nat} {x1 x2 x3 : Int32} : ∀ k, k < 12 → cB M c x1 x2 x3 6 0 c k = ([x2, x3, 0, x1, -1, -1, 0, 0, -1, -1, -1, 0] : List Int32).getD k 0 := by
  refine k12 ?_ ?_ ?_ ?_ ?_ ?_ ?_ ?_ ?_ ?_ ?_ ?_ <;> simp [cB, up]
theorem s_company {B : Nat} {M N : Mem} (h : Rel B M N) (x1 x2 x3 : Int32) : Sim (Rel (B + 1)) (mF_company x1 x2 x3 M) (mK_company x1 x2 x3 N) := by
  unfold mF_company mK_company mK_companyb
  simp only [F_isTown_eq h.1.c, K_isTown_eq, F_within_eq, K_in_eq, Option.bind_some, bI_ite, bindE]
  refine Sim.ite (fun hp => ?_) (fun _ => Sim.f1 h)
  refine Sim.ite (fun hq => ?_) (fun _ => Sim.f1 h)
  refine Sim.ite (fun hr => ?_) (fun _ => Sim.f1 h)
  have b2 := h.1.c.b2
  have e2 := h.1.c.e2
  have n2 := h.1.c.n2
  have b3 := h.1.c.b3
  rw [e2]
  by_cases hf : N 41 0 0 2 = 5
  · rw [if_pos hf, if_neg (by rw [hf]; decide)]
    exact Sim.f4 h
  have hl : N 41 0 0 2 < 5 := (cnt_lt (b := 5) n2 b2 (by decide)).mpr hf
  rw [if_neg hf, if_pos hl]
  have c5 : cn (N 41 0 0) 2 < 5 := by
    rw [n2] at hl
    exact (nI_ltI (b := 5) (by omega) (by decide)).mp hl
  rw [n2, ixx_nI c5 (by decide), C_begin_eq]
  simp only [Option.bind_some]
  generalize hT : cn (N 41 0 0) 2 = T at *
  have z := K_company_69 c5 (up N 41 0 0 2 (nI T + 1)) x1 x2 x3 24 0 fuel (by omega) (by unfold fuel; omega)
  rw [fm_0] at z
  rw [show mK_company_69 fuel x1 x2 x3 (nI T) 0 (up N 41 0 0 2 (nI T + 1)) = _ from z]
  have m1 : fm (cB M T x1 x2 x3) 8 0 T 0 8 (fun _ => 0) 1 0 0 6 = nI T := by rw [fm_o (by omega), cB_o (by omega), e2, n2]
  rw [m1, nI_1]
  have ho : ∀ k, (k ≠ 2 ∧ ¬ (100 + 24 * T ≤ k ∧ k < 124 + 24 * T) ∧ ¬ (1392 + 8 * T ≤ k ∧ k < 1400 + 8 * T)) → fm (up (up (up (fm (up N 41 0 0 2 (nI (T + 1))) 41 0 0 (100 + 24 * T) 24 vCo) 41 0 0 (100 + 24 * T) x2) 41 0 0 (100 + 24 * T + 1) x3) 41 0 0 (100 + 24 * T + 2) x1) 41 0 0 (1392 + 8 * T) 8 (fun _ => 0) 41 0 0 k = N 41 0 0 k := fun k q => by rw [fm_o (by omega), up_ne (by omega), up_ne (by omega), up_ne (by omega), fm_o (by omega), up_ne (by omega)]
  have hw : ∀ j, j < 8 → fm (up (up (up (fm (up N 41 0 0 2 (nI (T + 1))) 41 0 0 (100 + 24 * T) 24 vCo) 41 0 0 (100 + 24 * T) x2) 41 0 0 (100 + 24 * T + 1) x3) 41 0 0 (100 + 24 * T + 2) x1) 41 0 0 (1392 + 8 * T) 8 (fun _ => 0) 41 0 0 (1392 + 8 * T + j) = 0 := fun j hj => fm_i hj
  have h2' : fm (up (up (up (fm (up N 41 0 0 2 (nI (T + 1))) 41 0 0 (100 + 24 * T) 24 vCo) 41 0 0 (100 + 24 * T) x2) 41 0 0 (100 + 24 * T + 1) x3) 41 0 0 (100 + 24 * T + 2) x1) 41 0 0 (1392 + 8 * T) 8 (fun _ => 0) 41 0 0 2 = nI (T + 1) := by rw [fm_o (by omega), up_ne (by omega), up_ne (by omega), up_ne (by omega), fm_o (by omega), up_eq]
  have hk : ∀ j, 3 ≤ j → j < 24 → fm (up (up (up (fm (up N 41 0 0 2 (nI (T + 1))) 41 0 0 (100 + 24 * T) 24 vCo) 41 0 0 (100 + 24 * T) x2) 41 0 0 (100 + 24 * T + 1) x3) 41 0 0 (100 + 24 * T + 2) x1) 41 0 0 (1392 + 8 * T) 8 (fun _ => 0) 41 0 0 (100 + 24 * T + j) = vCo j := fun j q1 q2 => by rw [fm_o (by omega), up_ne (by omega), up_ne (by omega), up_ne (by omega), fm_i q2]
  have hk0 : fm (up (up (up (fm (up N 41 0 0 2 (nI (T + 1))) 41 0 0 (100 + 24 * T) 24 vCo) 41 0 0 (100 + 24 * T) x2) 41 0 0 (100 + 24 * T + 1) x3) 41 0 0 (100 + 24 * T + 2) x1) 41 0 0 (1392 + 8 * T) 8 (fun _ => 0) 41 0 0 (100 + 24 * T) = x2 := by rw [fm_o (by omega), up_ne (by omega), up_ne (by omega), up_eq]
  have hk1 : fm (up (up (up (fm (up N 41 0 0 2 (nI (T + 1))) 41 0 0 (100 + 24 * T) 24 vCo) 41 0 0 (100 + 24 * T) x2) 41 0 0 (100 + 24 * T + 1) x3) 41 0 0 (100 + 24 * T + 2) x1) 41 0 0 (1392 + 8 * T) 8 (fun _ => 0) 41 0 0 (100 + 24 * T + 1) = x3 := by rw [fm_o (by omega), up_ne (by omega), up_eq]
  have hk2 : fm (up (up (up (fm (up N 41 0 0 2 (nI (T + 1))) 41 0 0 (100 + 24 * T) 24 vCo) 41 0 0 (100 + 24 * T) x2) 41 0 0 (100 + 24 * T + 1) x3) 41 0 0 (100 + 24 * T + 2) x1) 41 0 0 (1392 + 8 * T) 8 (fun _ => 0) 41 0 0 (100 + 24 * T + 2) = x1 := by rw [fm_o (by omega), up_eq]
  have hoN : ∀ r w i k, r ≠ 41 → fm (up (up (up (fm (up N 41 0 0 2 (nI (T + 1))) 41 0 0 (100 + 24 * T) 24 vCo) 41 0 0 (100 + 24 * T) x2) 41 0 0 (100 + 24 * T + 1) x3) 41 0 0 (100 + 24 * T + 2) x1) 41 0 0 (1392 + 8 * T) 8 (fun _ => 0) r w i k = N r w i k := fun r w i k q => by rw [fm_o (by omega), up_ne (by omega), up_ne (by omega), up_ne (by omega), fm_o (by omega), up_ne (by omega)]
  generalize fm (up (up (up (fm (up N 41 0 0 2 (nI (T + 1))) 41 0 0 (100 + 24 * T) 24 vCo) 41 0 0 (100 + 24 * T) x2) 41 0 0 (100 + 24 * T + 1) x3) 41 0 0 (100 + 24 * T + 2) x1) 41 0 0 (1392 + 8 * T) 8 (fun _ => 0) = N' at *
  have moR : ∀ r w i k, ¬ (w = 0 ∧ ((r = 6 ∧ i = T) ∨ (r = 8 ∧ i = T) ∨ (r = 1 ∧ k = 6))) → up (fm (cB M T x1 x2 x3) 8 0 T 0 8 (fun _ => 0)) 1 0 0 6 (nI (T + 1)) r w i k = M r w i k := fun r w i k q => by rw [up_ne (by omega), fm_o (by omega), cB_o (by omega)]
  have mk : ∀ k, k < 12 → up (fm (cB M T x1 x2 x3) 8 0 T 0 8 (fun _ => 0)) 1 0 0 6 (nI (T + 1)) 6 0 T k = ([x2, x3, 0, x1, -1, -1, 0, 0, -1, -1, -1, 0] : List Int32).getD k 0 := fun k hk => by rw [upR (by decide), fm_o (by omega), cB_k k hk]
  have mw : ∀ j, j < 8 → up (fm (cB M T x1 x2 x3) 8 0 T 0 8 (fun _ => 0)) 1 0 0 6 (nI (T + 1)) 8 0 T j = 0 := fun j hj => by
    rw [upR (by decide)]
    have := fm_i (M := cB M T x1 x2 x3) (r := 8) (w := 0) (i := T) (a := 0) (v := fun _ => 0) hj
    rw [Nat.zero_add] at this
    exact this
  have m6 : up (fm (cB M T x1 x2 x3) 8 0 T 0 8 (fun _ => 0)) 1 0 0 6 (nI (T + 1)) 1 0 0 6 = nI (T + 1) := up_eq
  generalize up (fm (cB M T x1 x2 x3) 8 0 T 0 8 (fun _ => 0)) 1 0 0 6 (nI (T + 1)) = M' at *
  refine Sim.ret (h.world (by omega) ?_ (fun r w i k _ _ _ _ q => moR r w i k (by omega)) (fun r k q => hoN r 0 0 k (by omega)))
  have hc2 : cn (N' 41 0 0) 2 = T + 1 := cn_nI h2' (by omega)
  have hc0 : cn (N' 41 0 0) 0 = cn (N 41 0 0) 0 := cn_same (ho 0 (by omega))
  have hc3 : cn (N' 41 0 0) 3 = cn (N 41 0 0) 3 := cn_same (ho 3 (by omega))
  have hcL : ∀ c q, cL (N' 41 0 0) c q = cL (N 41 0 0) c q := fun c q => cL_same (ho 3 (by omega)) b3 (fun k _ _ => ho k (by omega))
  subst hT
  refine h.1.newCompany (by omega) (fun r i k _ _ q => moR r 0 i k (by omega)) (fun k q => ho k (by omega)) ?_ hc2 ?_ ?_ ?_
  · refine h.1.c.set (j := 2) (n := cn (N 41 0 0) 2 + 1) (by decide) c5 (fun k hk e => ?_) (fun k hk e => ho k (by omega)) m6 h2'
    have := slC_ne hk (by decide) e
    have e' : slC 2 = 6 := rfl
    exact moR _ _ _ _ (by omega)
  · unfold XP1
    rw [hk0, hk1, hk2, hk 3 (by decide) (by decide), hk 4 (by decide) (by decide), hk 5 (by decide) (by decide), hk 6 (by decide) (by decide), hk 7 (by decide) (by decide), hk 8 (by decide) (by decide), hk 9 (by decide) (by decide), mk 0 (by decide), mk 1 (by decide), mk 2 (by decide), mk 3 (by decide), mk 4 (by decide), mk 5 (by decide), mk 8 (by decide), mk 9 (by decide), mk 10 (by decide), mk 11 (by decide), hc0]
    have hx1 : isN x1 (cn (N 41 0 0) 0) := h.1.c.in0 hp
    refine ⟨⟨rfl, rfl, rfl, rfl, rfl, rfl, rfl⟩, fun q => absurd q (hx1.ge (by have := h.1.c.b0; omega)), fun q => absurd (show (-1 : Int32) < 0 by decide) q, fun j hj => ?_, (in_lit0 (b := 9999) (by decide) hr).mono (by omega), .inl hx1, ⟨0, by decide, rfl⟩, .inl ⟨rfl, rfl⟩⟩
    rw [cn_nI (f := N' 41 0 0) (n := 0) (hk 9 (by decide) (by decide)) (by decide)] at hj
    omega
  · intro c hc
    rw [hc2] at hc
    rw [hcL, hcL]
    by_cases e : c = cn (N 41 0 0) 2
    · subst e
      rw [mk 6 (by decide), mk 7 (by decide)]
      have zero : ∀ q, cL (N 41 0 0) (cn (N 41 0 0) 2) q = 0 := by
        intro q
        refine fb_ct_zero.mpr fun l hl => ?_
        obtain ⟨c', hc', ec'⟩ := (h.1.l l hl).2.1
        refine decide_eq_false fun z => ?_
        rw [ec'] at z
        have := (nI_eq (by omega) (by omega)).mp z.1
        omega
      rw [zero, zero]
      exact ⟨rfl, rfl⟩
    · rw [moR _ _ _ _ (by omega), moR _ _ _ _ (by omega)]
      exact h.1.f c (by omega)
  · intro c hc t ht
    rw [hc2] at hc
    by_cases e : c = cn (N 41 0 0) 2
    · subst e
      rw [mw t ht, hw t ht]
      exact ⟨rfl, 0, by decide, rfl⟩
    · rw [moR _ _ _ _ (by omega), ho _ (by omega)]
      exact h.1.w c (by omega) t ht
