/-! ===== asking, parts ===== -/
def allW (g : Nat → Int32) (lo hi : Int32) : Nat → Nat → Int32
  | 0, _ => 1
  | d + 1, i => if lo ≤ g i ∧ g i ≤ hi then allW g lo hi d (i + 1) else 0
theorem allW_s (g : Nat → Int32) (lo hi : Int32) (d i : Nat) : allW g lo hi (d + 1) i = if lo ≤ g i ∧ g i ≤ hi then allW g lo hi d (i + 1) else 0 := rfl
theorem allW_01 (g : Nat → Int32) (lo hi : Int32) : ∀ (d i : Nat), allW g lo hi d i = 0 ∨ allW g lo hi d i = 1
  | 0, _ => .inr rfl
  | d + 1, i => by
    rw [allW_s]
    split
    · exact allW_01 g lo hi d (i + 1)
    · exact .inl rfl
theorem allW_cong {g g' : Nat → Int32} (lo hi : Int32) : ∀ (d i : Nat), (∀ k, i ≤ k → k < i + d → g k = g' k) → allW g lo hi d i = allW g' lo hi d i
  | 0, _, _ => rfl
  | d + 1, i, h => by rw [allW_s, allW_s, h i (by omega) (by omega), allW_cong lo hi d (i + 1) (fun k h1 h2 => h k (by omega) (by omega))]
theorem allW_all {g : Nat → Int32} {lo hi : Int32} : ∀ {d i : Nat}, ¬ allW g lo hi d i = 0 → ∀ k, i ≤ k → k < i + d → lo ≤ g k ∧ g k ≤ hi
  | 0, i, _, k, h1, h2 => by omega
  | d + 1, i, h, k, h1, h2 => by
    rw [allW_s] at h
    by_cases z : lo ≤ g i ∧ g i ≤ hi
    · rw [if_pos z] at h
      by_cases e : k = i
      · subst e; exact z
      · exact allW_all h k (by omega) (by omega)
    · rw [if_neg z] at h
      exact absurd rfl h
/-- a sheet, as both have it -/
def shV (M N : Mem) (s n : Nat) : Prop := M 19 0 s 1 = nI n ∧ N 65 0 0 s = nI n ∧ n ≤ 24 ∧ ∀ i, i < 24 → M 20 0 s i = N 66 0 0 (24 * s + i)
theorem RO.sheet {M N : Mem} (h : RO M N) {s : Nat} (hs : s < 4) : ∃ n, shV M N s n := by
  obtain ⟨q1, q2, ⟨n, hn, en⟩, q4⟩ := h.2.2.1 s hs
  exact ⟨n, q2.trans en, en, by omega, q4⟩
theorem S_allWithin_2 {M N : Mem} {s n : Nat} (h : shV M N s n) (lo hi : Int32) : ∀ (d i m : Nat), i + d = n → d < m → mS_allWithin_2 m s lo hi (nI i) M = some (allW (fun k => N 66 0 0 (24 * s + k)) lo hi d i, M) := by
  obtain ⟨h1, h2, h3, h4⟩ := h
  intro d
  induction d with
  | zero =>
    intro i m hi' hm
    obtain ⟨m, rfl⟩ : ∃ k, m = k + 1 := ⟨m - 1, by omega⟩
    show mS_allWithin_2b (mS_allWithin_2 m) s lo hi (nI i) M = _
    unfold mS_allWithin_2b
    rw [h1, if_neg (nI_nlt (by omega) (by omega))]
    rfl
  | succ d ih =>
    intro i m hi' hm
    obtain ⟨m, rfl⟩ : ∃ k, m = k + 1 := ⟨m - 1, by omega⟩
    show mS_allWithin_2b (mS_allWithin_2 m) s lo hi (nI i) M = _
    unfold mS_allWithin_2b
    rw [h1, if_pos (nI_lt (by omega) (by omega)), ixx_nI (by omega) (by decide), F_within_eq]
    simp only [Option.bind_some, bI_ite]
    rw [nI_1, ih _ _ (by omega) (by omega), h4 i (by omega), allW_s]
    by_cases z : lo ≤ N 66 0 0 (24 * s + i) ∧ N 66 0 0 (24 * s + i) ≤ hi
    · rw [if_pos z, if_pos z]
    · rw [if_neg z, if_neg z]
theorem S_allWithin_eq {M N : Mem} {s n : Nat} (h : shV M N s n) (lo hi : Int32) : mS_allWithin s lo hi M = some (allW (fun k => N 66 0 0 (24 * s + k)) lo hi n 0, M) := by
  have := h.2.2.1
  exact S_allWithin_2 h lo hi n 0 fuel (by omega) (by unfold fuel; omega)
/-- whether a sheet is of so many threes -/
def thr (g : Nat → Int32) (n most : Nat) : Int32 := if n % 3 = 0 ∧ 1 ≤ n / 3 ∧ n / 3 ≤ most then allW g 0 9999 n 0 else 0
theorem rem3 {n : Nat} (h : n ≤ 24) : (nI n - nI n / 3 * 3 = 0) ↔ n % 3 = 0 := by
  have e : nI n - nI n / 3 * 3 = nI (n % 3) := pk_rem (d := 3) (by omega) (by decide) (by decide)
  rw [e]
  exact nI_eq (b := 0) (by omega) (by decide)
theorem div3 {n : Nat} (h : n ≤ 24) : nI n / 3 = nI (n / 3) := pk_div (d := 3) (by omega) (by decide) (by decide)
theorem S_inThrees_eq {M N : Mem} {s n : Nat} (h : shV M N s n) {most : Nat} (hm : most < 2 ^ 31) : mS_inThrees s (nI most) M = some (thr (fun k => N 66 0 0 (24 * s + k)) n most, M) := by
  have h3 := h.2.2.1
  unfold mS_inThrees
  rw [h.1, S_allWithin_eq h, div3 h3]
  simp only [Option.bind_some]
  unfold thr
  by_cases z0 : n = 0
  · subst z0
    rw [if_pos (by decide), if_neg (by omega)]
  · have : ¬ nI n ≤ 0 := nI_nle (by omega) (by omega)
    rw [if_neg this]
    have r3 := rem3 h3
    rw [div3 h3] at r3
    by_cases z1 : n % 3 = 0
    · rw [if_pos (r3.mpr z1)]
      by_cases z2 : n / 3 ≤ most
      · have zz : n % 3 = 0 ∧ 1 ≤ n / 3 ∧ n / 3 ≤ most := ⟨z1, by omega, z2⟩
        rw [if_pos (nI_le z2 hm), if_pos zz]
        rcases allW_01 (fun k => N 66 0 0 (24 * s + k)) 0 9999 n 0 with q | q
        · simp only [q, if_true]
        · simp only [q, show ((1 : Int32) = 0) = False from eq_false (by decide), if_false]
      · rw [if_neg (fun q => z2 ((nI_leI (by omega) hm).mp q)), if_neg (fun q => z2 q.2.2)]
    · rw [if_neg (fun q => z1 (r3.mp q)), if_neg (fun q => z1 q.1)]
theorem K_isOfThrees_36 {M N : Mem} {s n : Nat} (hs : s < 4) (h : shV M N s n) : ∀ (d i m : Nat) (x : Int32), (x = 0 ∨ x = 1) → i + d = n → d < m → mK_isOfThrees_36 m (nI s) x (nI i) N = some (if x = 0 then 0 else allW (fun k => N 66 0 0 (24 * s + k)) 0 9999 d i, N) := by
  obtain ⟨h1, h2, h3, h4⟩ := h
  intro d
  induction d with
  | zero =>
    intro i m x hx hi' hm
    obtain ⟨m, rfl⟩ : ∃ k, m = k + 1 := ⟨m - 1, by omega⟩
    show mK_isOfThrees_36b (mK_isOfThrees_36 m) (nI s) x (nI i) N = _
    unfold mK_isOfThrees_36b
    rw [ixx_nI hs (by decide), h2, if_neg (nI_nlt (by omega) (by omega)), if_pos hx]
    rcases hx with rfl | rfl <;> rfl
  | succ d ih =>
    intro i m x hx hi' hm
    obtain ⟨m, rfl⟩ : ∃ k, m = k + 1 := ⟨m - 1, by omega⟩
    show mK_isOfThrees_36b (mK_isOfThrees_36 m) (nI s) x (nI i) N = _
    unfold mK_isOfThrees_36b
    have i24 : ∀ {F : Nat → Option (Int32 × Mem)}, ixx ((24 * nI s) + nI i) 96 F = F (24 * s + i) := fun {F} => ixx_e (ix24 s i) (by omega) (by decide)
    rw [ixx_nI hs (by decide), h2, if_pos (nI_lt (by omega) (by omega)), i24, K_in_eq]
    simp only [Option.bind_some, bI_ite]
    rw [nI_1, ih _ _ 0 (.inl rfl) (by omega) (by omega), ih _ _ 1 (.inr rfl) (by omega) (by omega), allW_s]
    rcases hx with rfl | rfl
    · simp only [if_true]
    · simp only [show ((1 : Int32) = 0) = False from eq_false (by decide), if_false, if_true]
      by_cases z : 0 ≤ N 66 0 0 (24 * s + i) ∧ N 66 0 0 (24 * s + i) ≤ 9999
      · simp only [if_pos z]
      · simp only [if_neg z]
theorem K_isOfThrees_eq {M N : Mem} {s n : Nat} (hs : s < 4) (h : shV M N s n) {most : Nat} (hm : most < 2 ^ 31) : mK_isOfThrees (nI s) (nI most) N = some (thr (fun k => N 66 0 0 (24 * s + k)) n most, N) := by
  have h3 := h.2.2.1
  have l0 := K_isOfThrees_36 hs h n 0 fuel 0 (.inl rfl) (by omega) (by unfold fuel; omega)
  have l1 := K_isOfThrees_36 hs h n 0 fuel 1 (.inr rfl) (by omega) (by unfold fuel; omega)
  unfold mK_isOfThrees mK_isOfThreesb
  rw [ixx_nI hs (by decide), ixx_nI hs (by decide), h.2.1, K_in_eq, div3 h3]
  simp only [Option.bind_some, bI_ite]
  rw [show mK_isOfThrees_36 fuel (nI s) 0 0 N = _ from l0, show mK_isOfThrees_36 fuel (nI s) 1 0 N = _ from l1, if_pos rfl, if_neg (show ¬ (1 : Int32) = 0 by decide)]
  unfold thr
  have r3 := rem3 h3
  rw [div3 h3] at r3
  by_cases z1 : n % 3 = 0
  · rw [if_pos (r3.mpr z1)]
    by_cases z2 : 1 ≤ n / 3 ∧ n / 3 ≤ most
    · have yy : 1 ≤ nI (n / 3) ∧ nI (n / 3) ≤ nI most := ⟨nI_le (a := 1) z2.1 (by omega), nI_le z2.2 hm⟩
      have zz : n % 3 = 0 ∧ 1 ≤ n / 3 ∧ n / 3 ≤ most := ⟨z1, z2⟩
      rw [if_pos yy, if_pos zz]
    · have yy : ¬ (1 ≤ nI (n / 3) ∧ nI (n / 3) ≤ nI most) := fun q => z2 ⟨(nI_leI (a := 1) (by decide) (by omega)).mp q.1, (nI_leI (by omega) hm).mp q.2⟩
      have zz : ¬ (n % 3 = 0 ∧ 1 ≤ n / 3 ∧ n / 3 ≤ most) := fun q => z2 q.2
      rw [if_neg yy, if_neg zz]
  · rw [if_neg (fun q => z1 (r3.mp q)), if_neg (fun q => z1 q.1)]
/-! the ways of asking: what is paid and lost -/
def cw (g : Nat → Int32) (a set : Int32) : Nat → Nat → Int32 → Int32 → Int32 → Int32 × Int32
  | 0, _, _, paid, lost => (paid, lost)
  | d + 1, i, more, paid, lost => if ((set >>> (((a - 1) - nI i) &&& 31)) &&& 1) = 0 then cw g a set d (i + 1) more paid (lost + g (3 * i + 1)) else cw g a set d (i + 1) (more + g (3 * i + 2)) (paid + (g (3 * i) + more)) lost
theorem cw_s (g : Nat → Int32) (a set : Int32) (d i : Nat) (more paid lost : Int32) : cw g a set (d + 1) i more paid lost = if ((set >>> (((a - 1) - nI i) &&& 31)) &&& 1) = 0 then cw g a set d (i + 1) more paid (lost + g (3 * i + 1)) else cw g a set d (i + 1) (more + g (3 * i + 2)) (paid + (g (3 * i) + more)) lost := rfl
theorem cw_bd {g : Nat → Int32} {a set : Int32} {n : Nat} (hn : n ≤ 4) (hg : ∀ k, k < 3 * n → isN (g k) 10000) : ∀ (d i : Nat) (more paid lost : Int32), i + d = n → isN more (9999 * i + 1) → isN paid (60000 * i + 1) → isN lost (9999 * i + 1) → isN (cw g a set d i more paid lost).1 300000 ∧ isN (cw g a set d i more paid lost).2 100000 := by
  intro d
  induction d with
  | zero =>
    intro i more paid lost hi h1 h2 h3
    exact ⟨h2.mono (by omega), h3.mono (by omega)⟩
  | succ d ih =>
    intro i more paid lost hi h1 h2 h3
    rw [cw_s]
    split
    · exact ih _ _ _ _ (by omega) (h1.mono (by omega)) (h2.mono (by omega)) ((h3.add (m := 9999) (hg _ (by omega))).mono (by omega))
    · exact ih _ _ _ _ (by omega) ((h1.add (m := 9999) (hg _ (by omega))).mono (by omega)) ((h2.add (m := 10000 + 9999 * i) (((hg _ (by omega)).add h1).mono (by omega))).mono (by omega)) (h3.mono (by omega))
theorem P_costOfWay_12 {M N : Mem} {s n : Nat} (h : shV M N s n) {k : Nat} (hk : 3 * k ≤ n) (coin set : Int32) : ∀ (d i m : Nat) (more paid lost : Int32), i + d = k → d < m → mP_costOfWay_12 m s (nI k) coin set more paid lost (nI i) M = some (if (cw (fun j => N 66 0 0 (24 * s + j)) (nI k) set d i more paid lost).1 ≤ coin then (cw (fun j => N 66 0 0 (24 * s + j)) (nI k) set d i more paid lost).1 + (cw (fun j => N 66 0 0 (24 * s + j)) (nI k) set d i more paid lost).2 else -1, M) := by
  obtain ⟨h1, h2, h3, h4⟩ := h
  intro d
  induction d with
  | zero =>
    intro i m more paid lost hi' hm
    obtain ⟨m, rfl⟩ : ∃ k, m = k + 1 := ⟨m - 1, by omega⟩
    show mP_costOfWay_12b (mP_costOfWay_12 m) s (nI k) coin set more paid lost (nI i) M = _
    unfold mP_costOfWay_12b
    rw [if_neg (nI_nlt (by omega) (by omega))]
    show _ = some (if paid ≤ coin then paid + lost else -1, M)
    split <;> rfl
  | succ d ih =>
    intro i m more paid lost hi' hm
    obtain ⟨m, rfl⟩ : ∃ k, m = k + 1 := ⟨m - 1, by omega⟩
    show mP_costOfWay_12b (mP_costOfWay_12 m) s (nI k) coin set more paid lost (nI i) M = _
    unfold mP_costOfWay_12b
    have j0 : ∀ {F : Nat → Option (Int32 × Mem)}, ixx (3 * nI i) 24 F = F (3 * i) := fun {F} => ixx_e (pk_mul 3 i) (by omega) (by decide)
    have j1 : ∀ {F : Nat → Option (Int32 × Mem)}, ixx (3 * nI i + 1) 24 F = F (3 * i + 1) := fun {F} => ixx_e (by show nI 3 * nI i + nI 1 = _; rw [pk_mul, nI_add]) (by omega) (by decide)
    have j2 : ∀ {F : Nat → Option (Int32 × Mem)}, ixx (3 * nI i + 2) 24 F = F (3 * i + 2) := fun {F} => ixx_e (by show nI 3 * nI i + nI 2 = _; rw [pk_mul, nI_add]) (by omega) (by decide)
    rw [if_pos (nI_lt (by omega) (by omega)), j0, j1, j2, nI_1, ih _ _ _ _ _ (by omega) (by omega), ih _ _ _ _ _ (by omega) (by omega), h4 _ (by omega), h4 _ (by omega), h4 _ (by omega), cw_s]
    by_cases z : ((set >>> (((nI k - 1) - nI i) &&& 31)) &&& 1) = 0
    · rw [if_pos z, if_pos z]
    · rw [if_neg z, if_neg z]
/-- what a way costs; -1: the coin isn't there -/
def cst (g : Nat → Int32) (k : Nat) (coin set : Int32) : Int32 := if (cw g (nI k) set k 0 0 0 0).1 ≤ coin then (cw g (nI k) set k 0 0 0 0).1 + (cw g (nI k) set k 0 0 0 0).2 else -1
theorem P_costOfWay_eq {M N : Mem} {s n : Nat} (h : shV M N s n) {k : Nat} (hk : 3 * k ≤ n) (coin set : Int32) : mP_costOfWay s (nI k) coin set M = some (cst (fun j => N 66 0 0 (24 * s + j)) k coin set, M) := by
  have := h.2.2.1
  exact P_costOfWay_12 h hk coin set k 0 fuel 0 0 0 (by omega) (by unfold fuel; omega)
theorem K_ask_109 {M N : Mem} {s n : Nat} (hs : s < 4) (h : shV M N s n) {k : Nat} (hk : 3 * k ≤ n) (r : Int32 → Int32 → Int32 → Int32 → Int32 → Int32 → Int32 → Mem → Option (Int32 × Mem)) {t : Nat} (ht : t < 8) (x3 best least set : Int32) : ∀ (d i m : Nat) (more paid lost : Int32), i + d = k → d < m → mK_ask_109 r m (nI t) (nI s) x3 (nI k) best least set paid lost more (nI i) N =
    if (cw (fun j => N 66 0 0 (24 * s + j)) (nI k) set d i more paid lost).1 ≤ N 41 0 0 (20 + 4 * t) then (if best < 0 then r (nI t) (nI s) x3 (nI k) set ((cw (fun j => N 66 0 0 (24 * s + j)) (nI k) set d i more paid lost).1 + (cw (fun j => N 66 0 0 (24 * s + j)) (nI k) set d i more paid lost).2) (set + 1) N else if (cw (fun j => N 66 0 0 (24 * s + j)) (nI k) set d i more paid lost).1 + (cw (fun j => N 66 0 0 (24 * s + j)) (nI k) set d i more paid lost).2 < least then r (nI t) (nI s) x3 (nI k) set ((cw (fun j => N 66 0 0 (24 * s + j)) (nI k) set d i more paid lost).1 + (cw (fun j => N 66 0 0 (24 * s + j)) (nI k) set d i more paid lost).2) (set + 1) N else r (nI t) (nI s) x3 (nI k) best least (set + 1) N) else r (nI t) (nI s) x3 (nI k) best least (set + 1) N := by
  obtain ⟨h1, h2, h3, h4⟩ := h
  intro d
  induction d with
  | zero =>
    intro i m more paid lost hi' hm
    obtain ⟨m, rfl⟩ : ∃ k, m = k + 1 := ⟨m - 1, by omega⟩
    show mK_ask_109b r (mK_ask_109 r m) (nI t) (nI s) x3 (nI k) best least set paid lost more (nI i) N = _
    unfold mK_ask_109b
    rw [if_neg (nI_nlt (by omega) (by omega)), K_ofTown_0 ht]
    rfl
  | succ d ih =>
    intro i m more paid lost hi' hm
    obtain ⟨m, rfl⟩ : ∃ k, m = k + 1 := ⟨m - 1, by omega⟩
    show mK_ask_109b r (mK_ask_109 r m) (nI t) (nI s) x3 (nI k) best least set paid lost more (nI i) N = _
    unfold mK_ask_109b
    have j0 : ∀ {F : Nat → Option (Int32 × Mem)}, ixx ((24 * nI s) + (3 * nI i)) 96 F = F (24 * s + 3 * i) := fun {F} => ixx_e (by show nI 24 * nI s + nI 3 * nI i = _; rw [pk_mul, pk_mul, nI_add]) (by omega) (by decide)
    have j1 : ∀ {F : Nat → Option (Int32 × Mem)}, ixx (((24 * nI s) + (3 * nI i)) + 1) 96 F = F (24 * s + (3 * i + 1)) := fun {F} => ixx_e (by show nI 24 * nI s + nI 3 * nI i + nI 1 = _; rw [pk_mul, pk_mul, nI_add, nI_add, Nat.add_assoc]) (by omega) (by decide)
    have j2 : ∀ {F : Nat → Option (Int32 × Mem)}, ixx (((24 * nI s) + (3 * nI i)) + 2) 96 F = F (24 * s + (3 * i + 2)) := fun {F} => ixx_e (by show nI 24 * nI s + nI 3 * nI i + nI 2 = _; rw [pk_mul, pk_mul, nI_add, nI_add, Nat.add_assoc]) (by omega) (by decide)
    rw [if_pos (nI_lt (by omega) (by omega)), j0, j1, j2, nI_1, ih _ _ _ _ _ (by omega) (by omega), ih _ _ _ _ _ (by omega) (by omega), cw_s]
    by_cases z : ((set >>> (((nI k - 1) - nI i) &&& 31)) &&& 1) = 0
    · simp only [if_pos z]
    · simp only [if_neg z]
theorem sh1 {k : Nat} (hk : k ≤ 4) : (1 : Int32) <<< (nI k &&& 31) = nI (2 ^ k) := by
  rcases (by omega : k = 0 ∨ k = 1 ∨ k = 2 ∨ k = 3 ∨ k = 4) with rfl | rfl | rfl | rfl | rfl <;> decide
theorem p2le {k : Nat} (hk : k ≤ 4) : 1 ≤ 2 ^ k ∧ 2 ^ k ≤ 16 := by
  rcases (by omega : k = 0 ∨ k = 1 ∨ k = 2 ∨ k = 3 ∨ k = 4) with rfl | rfl | rfl | rfl | rfl <;> decide
/-- both go through the ways alike -/
theorem ask_loop {M N : Mem} {s n : Nat} (hs : s < 4) (h : shV M N s n) {k : Nat} (hk : 3 * k ≤ n) (hk4 : k ≤ 4) (hg : ∀ j, j < 3 * k → isN (N 66 0 0 (24 * s + j)) 10000) {t : Nat} (ht : t < 8) (x3 : Int32) : ∀ (d i m m' b : Nat) (least : Int32), i + d = 2 ^ k → d < m → d < m' → b < 16 → least = cst (fun j => N 66 0 0 (24 * s + j)) k (N 41 0 0 (20 + 4 * t)) (nI b) →
    ∃ b' : Nat, mP_cheapestWay_16 m s (nI k) (N 41 0 0 (20 + 4 * t)) (nI b) least (nI i) M = some (nI b', M) ∧ mK_ask_88 m' (nI t) (nI s) x3 (nI k) (nI b) least (nI i) N = some (if x3 < 0 then cst (fun j => N 66 0 0 (24 * s + j)) k (N 41 0 0 (20 + 4 * t)) (nI b') else (nI b' >>> (((nI k - 1) - x3) &&& 31)) &&& 1, N) := by
  have p2 := p2le hk4
  intro d
  induction d with
  | zero =>
    intro i m m' b least hi hm hm' hb hl
    obtain ⟨m, rfl⟩ : ∃ k, m = k + 1 := ⟨m - 1, by omega⟩
    obtain ⟨m', rfl⟩ : ∃ k, m' = k + 1 := ⟨m' - 1, by omega⟩
    refine ⟨b, ?_, ?_⟩
    · show mP_cheapestWay_16b (mP_cheapestWay_16 m) s (nI k) _ (nI b) least (nI i) M = _
      unfold mP_cheapestWay_16b
      rw [sh1 hk4, if_neg (nI_nlt (by omega) (by omega))]
    · show mK_ask_88b (mK_ask_109 (mK_ask_88 m') fuel) (nI t) (nI s) x3 (nI k) (nI b) least (nI i) N = _
      unfold mK_ask_88b
      rw [sh1 hk4, if_neg (nI_nlt (by omega) (by omega)), hl]
      split <;> rfl
  | succ d ih =>
    intro i m m' b least hi hm hm' hb hl
    obtain ⟨m, rfl⟩ : ∃ k, m = k + 1 := ⟨m - 1, by omega⟩
    obtain ⟨m', rfl⟩ : ∃ k, m' = k + 1 := ⟨m' - 1, by omega⟩
    show ∃ b', mP_cheapestWay_16b (mP_cheapestWay_16 m) s (nI k) _ (nI b) least (nI i) M = _ ∧ mK_ask_88b (mK_ask_109 (mK_ask_88 m') fuel) (nI t) (nI s) x3 (nI k) (nI b) least (nI i) N = _
    unfold mP_cheapestWay_16b mK_ask_88b
    have hlt : nI i < nI (2 ^ k) := nI_lt (by omega) (by omega)
    have z := K_ask_109 hs h hk (mK_ask_88 m') ht x3 (nI b) least (nI i) k 0 fuel 0 0 0 (by omega) (by unfold fuel; omega)
    rw [sh1 hk4, if_pos hlt, if_pos hlt, P_costOfWay_eq h hk, show mK_ask_109 (mK_ask_88 m') fuel (nI t) (nI s) x3 (nI k) (nI b) least (nI i) 0 0 0 0 N = _ from z]
    simp only [Option.bind_some]
    have hb' := nI_pos (n := b) (by omega)
    have bd := cw_bd (a := nI k) (set := nI i) (n := k) hk4 hg k 0 0 0 0 (by omega) ⟨0, by omega, rfl⟩ ⟨0, by omega, rfl⟩ ⟨0, by omega, rfl⟩
    obtain ⟨⟨pp, hpp, epp⟩, ⟨ll, hll, ell⟩⟩ := bd
    have ih0 := ih (i + 1) m m' b least (by omega) (by omega) (by omega) hb hl
    unfold cst at ih0 ⊢
    by_cases zc : (cw (fun j => N 66 0 0 (24 * s + j)) (nI k) (nI i) k 0 0 0 0).1 ≤ N 41 0 0 (20 + 4 * t)
    · simp only [if_pos zc]
      have hnn : ¬ (cw (fun j => N 66 0 0 (24 * s + j)) (nI k) (nI i) k 0 0 0 0).1 + (cw (fun j => N 66 0 0 (24 * s + j)) (nI k) (nI i) k 0 0 0 0).2 < 0 := by
        rw [epp, ell, nI_add]
        exact nI_pos (by omega)
      rw [if_neg hnn, if_neg hb', nI_1]
      by_cases zl : (cw (fun j => N 66 0 0 (24 * s + j)) (nI k) (nI i) k 0 0 0 0).1 + (cw (fun j => N 66 0 0 (24 * s + j)) (nI k) (nI i) k 0 0 0 0).2 < least
      · rw [if_pos zl, if_pos zl]
        exact ih (i + 1) m m' i _ (by omega) (by omega) (by omega) (by omega) (by unfold cst; rw [if_pos zc])
      · rw [if_neg zl, if_neg zl]
        exact ih0
    · simp only [if_neg zc]
      rw [if_pos (by decide), nI_1]
      exact ih0
theorem s_ask {B : Nat} {M N : Mem} (h : Rel B M N) (x1 x2 x3 : Int32) (hB : B < 10000) : Sim (Rel (B + 1)) (mF_ask x1 x2 x3 M) (mK_ask x1 x2 x3 N) := by
  unfold mF_ask mK_ask mK_askb
  simp only [F_isTown_eq h.1.c, K_isTown_eq, F_isSheet_eq, K_isSheet_eq, S_missing_eq, F_within_eq, K_in_eq, Option.bind_some, bI_ite, bindE]
  refine Sim.ite (fun hp => ?_) (fun _ => Sim.f1 h)
  refine Sim.ite (fun hq => ?_) (fun _ => Sim.f1 h)
  obtain ⟨t, ht, rfl⟩ := h.1.c.in0 hp
  obtain ⟨s, hs, rfl⟩ := in_lit0 (b := 3) (by decide) hq
  have hs4 : s < 4 := by omega
  have b0 := h.1.c.b0
  have t8 : t < 8 := by omega
  obtain ⟨n, hv⟩ := h.2.2.sheet hs4
  have q0 : M 3 0 t 0 = N 41 0 0 (20 + 4 * t) := (h.1.t t ht).1 0 (by decide)
  simp only [ixx_nI hs4 (show (4 : Nat) < 2 ^ 31 by decide), (h.2.2.2.2.1 s hs4).1]
  refine Sim.ite (fun _ => Sim.f2 h) (fun _ => ?_)
  rw [show mS_inThrees s 4 M = _ from S_inThrees_eq hv (most := 4) (by decide), show mK_isOfThrees (nI s) 4 N = _ from K_isOfThrees_eq hs4 hv (most := 4) (by decide)]
  simp only [Option.bind_some, hv.1, hv.2.1, div3 hv.2.2.1]
  refine Sim.ite (fun _ => Sim.f5 h) (fun hth => ?_)
  refine Sim.ite (fun hw => ?_) (fun _ => Sim.f1 h)
  unfold thr at hth
  by_cases z : ¬ (n % 3 = 0 ∧ 1 ≤ n / 3 ∧ n / 3 ≤ 4)
  · rw [if_neg z] at hth
    exact absurd rfl hth
  have z := Classical.not_not.mp z
  rw [if_pos z] at hth
  have hg : ∀ j, j < 3 * (n / 3) → isN (N 66 0 0 (24 * s + j)) 10000 := fun j hj => in_lit0 (b := 9999) (by decide) (allW_all hth j (by omega) (by omega))
  rw [ixx_nI t8 (by decide), q0]
  generalize hk : n / 3 = k at *
  have hk3 : 3 * k ≤ n := by omega
  have p2 := p2le z.2.2
  obtain ⟨cc, hcc, ecc⟩ := (h.1.t t ht).2.1
  -- the first way: nobody is paid
  have c0 : (cw (fun j => N 66 0 0 (24 * s + j)) (nI k) 0 k 0 0 0 0).1 = 0 := by
    have key : ∀ (d i : Nat) (lost : Int32), (cw (fun j => N 66 0 0 (24 * s + j)) (nI k) 0 d i 0 0 lost).1 = 0 := by
      intro d
      induction d with
      | zero => intro i lost; rfl
      | succ d ih =>
        intro i lost
        rw [cw_s, if_pos (by
          have : ∀ x : Int32, (0 : Int32) >>> x = 0 := fun x => by
            apply Int32.toBitVec_inj.mp
            simp
          rw [this]; decide)]
        exact ih _ _
    exact key k 0 0
  have hc0 : (cw (fun j => N 66 0 0 (24 * s + j)) (nI k) 0 k 0 0 0 0).1 ≤ N 41 0 0 (20 + 4 * t) := by
    rw [c0, ecc]
    exact nI_pos' (by omega)
  obtain ⟨b', e1, e2⟩ := ask_loop hs4 hv hk3 z.2.2 hg t8 x3 (2 ^ k - 1) 1 fuel 99999 0 _ (by omega) (by unfold fuel; omega) (by omega) (by decide) rfl
  have eF : mP_cheapestWay s (nI k) (N 41 0 0 (20 + 4 * t)) M = some (nI b', M) := by
    unfold mP_cheapestWay mP_cheapestWayb
    rw [P_costOfWay_eq hv hk3]
    exact e1
  have eK : mK_ask_88 fuel (nI t) (nI s) x3 (nI k) (-1) 0 0 N = some (if x3 < 0 then cst (fun j => N 66 0 0 (24 * s + j)) k (N 41 0 0 (20 + 4 * t)) (nI b') else (nI b' >>> (((nI k - 1) - x3) &&& 31)) &&& 1, N) := by
    show mK_ask_88b (mK_ask_109 (mK_ask_88 99999) fuel) (nI t) (nI s) x3 (nI k) (-1) 0 0 N = _
    unfold mK_ask_88b
    have y := K_ask_109 hs4 hv hk3 (mK_ask_88 99999) t8 x3 (-1) 0 0 k 0 fuel 0 0 0 (by omega) (by unfold fuel; omega)
    rw [sh1 z.2.2, if_pos (show (0 : Int32) < nI (2 ^ k) from nI_lt (a := 0) (by omega) (by omega)), show mK_ask_109 (mK_ask_88 99999) fuel (nI t) (nI s) x3 (nI k) (-1) 0 0 0 0 0 0 N = _ from y, if_pos hc0, if_pos (by decide)]
    have e0 : cst (fun j => N 66 0 0 (24 * s + j)) k (N 41 0 0 (20 + 4 * t)) (nI 0) = (cw (fun j => N 66 0 0 (24 * s + j)) (nI k) 0 k 0 0 0 0).1 + (cw (fun j => N 66 0 0 (24 * s + j)) (nI k) 0 k 0 0 0 0).2 := if_pos hc0
    rw [e0] at e2
    exact e2
  rw [eF, eK]
  simp only [Option.bind_some, P_costOfWay_eq hv hk3]
  by_cases y : x3 < 0
  · simp only [if_pos y]
    exact Sim.ret h.up1
  · simp only [if_neg y]
    exact Sim.ret h.up1
