/-! ===== a world is copied ===== -/
/-- the things below hi come from another world; S says how many fields of each region -/
def cR (M : Mem) (S : Nat → Nat) (w0 w1 hi : Nat) : Mem := fun r w i k => if w = w0 ∧ i < hi ∧ k < S r then M r w1 i k else M r w i k
def eC (M : Mem) (S : Nat → Nat) (w0 w1 j : Nat) : Mem := fun r w i k => if w = w0 ∧ i = j ∧ k < S r then M r w1 i k else M r w i k
theorem cR_o {M : Mem} {S : Nat → Nat} {w0 w1 hi r w i k : Nat} (h : ¬ (w = w0 ∧ i < hi ∧ k < S r)) : cR M S w0 w1 hi r w i k = M r w i k := if_neg h
theorem cR_i {M : Mem} {S : Nat → Nat} {w0 w1 hi r i k : Nat} (h : i < hi) (hk : k < S r) : cR M S w0 w1 hi r w0 i k = M r w1 i k := if_pos ⟨rfl, h, hk⟩
theorem cR_0 {M : Mem} {S : Nat → Nat} {w0 w1 : Nat} : cR M S w0 w1 0 = M := by
  funext r w i k
  exact if_neg (by omega)
theorem cR_s {M : Mem} {S : Nat → Nat} {w0 w1 j : Nat} (hw : w0 ≠ w1) : eC (cR M S w0 w1 j) S w0 w1 j = cR M S w0 w1 (j + 1) := by
  funext r w i k
  unfold eC
  by_cases h : w = w0 ∧ i = j ∧ k < S r
  · rw [if_pos h, cR_o (by omega)]
    unfold cR
    rw [if_pos (by omega)]
  · rw [if_neg h]
    unfold cR
    by_cases h2 : w = w0 ∧ i < j ∧ k < S r
    · rw [if_pos h2, if_pos (by omega)]
    · rw [if_neg h2, if_neg (by omega)]
def kT (r : Nat) : Nat := if r = 3 then 4 else 0
def kC (r : Nat) : Nat := if r = 6 then 12 else if r = 7 then 12 else if r = 8 then 8 else 0
def kL (r : Nat) : Nat := if r = 10 then 5 else 0
def kU (r : Nat) : Nat := if r = 12 then 3 else if r = 13 then 50 else 0
def kB9 (r : Nat) : Nat := if r = 15 then 12 else 0
theorem T_copy_eq {w0 w1 j : Nat} (hw : w0 ≠ w1) (M : Mem) : mT_copy w0 j w1 j M = some (eC M kT w0 w1 j) := by
  unfold mT_copy
  have o : ∀ (X : Mem) a b k, up X 3 w0 j a b 3 w1 j k = X 3 w1 j k := fun X a b k => up_ne (by omega)
  simp only [o]
  refine congrArg some ?_
  funext r w i k
  by_cases h : r = 3 ∧ w = w0 ∧ i = j
  · obtain ⟨rfl, rfl, rfl⟩ := h
    unfold eC
    by_cases hk : k < 4
    · rw [if_pos ⟨rfl, rfl, hk⟩]
      rcases (by omega : k = 0 ∨ k = 1 ∨ k = 2 ∨ k = 3) with rfl | rfl | rfl | rfl <;> simp [up]
    · rw [if_neg (fun q => hk q.2.2)]
      rw [up_ne (by omega), up_ne (by omega), up_ne (by omega), up_ne (by omega)]
  · have e : eC M kT w0 w1 j r w i k = M r w i k := if_neg (fun q => by
      have : kT r = 0 ∨ r = 3 := by unfold kT; split <;> simp [*]
      omega)
    rw [e]
    rw [up_ne (by omega), up_ne (by omega), up_ne (by omega), up_ne (by omega)]
theorem L_copy_eq {w0 w1 j : Nat} (hw : w0 ≠ w1) (M : Mem) : mL_copy w0 j w1 j M = some (eC M kL w0 w1 j) := by
  unfold mL_copy
  have o : ∀ (X : Mem) a b k, up X 10 w0 j a b 10 w1 j k = X 10 w1 j k := fun X a b k => up_ne (by omega)
  simp only [o]
  refine congrArg some ?_
  funext r w i k
  by_cases h : r = 10 ∧ w = w0 ∧ i = j
  · obtain ⟨rfl, rfl, rfl⟩ := h
    unfold eC
    by_cases hk : k < 5
    · rw [if_pos ⟨rfl, rfl, hk⟩]
      rcases (by omega : k = 0 ∨ k = 1 ∨ k = 2 ∨ k = 3 ∨ k = 4) with rfl | rfl | rfl | rfl | rfl <;> simp [up]
    · rw [if_neg (fun q => hk q.2.2)]
      rw [up_ne (by omega), up_ne (by omega), up_ne (by omega), up_ne (by omega), up_ne (by omega)]
  · have e : eC M kL w0 w1 j r w i k = M r w i k := if_neg (fun q => by
      have : kL r = 0 ∨ r = 10 := by unfold kL; split <;> simp [*]
      omega)
    rw [e]
    rw [up_ne (by omega), up_ne (by omega), up_ne (by omega), up_ne (by omega), up_ne (by omega)]
theorem B_copy_eq {w0 w1 j : Nat} (hw : w0 ≠ w1) (M : Mem) (hz : M 15 w1 j 11 = 0 ∨ M 15 w1 j 11 = 1) : mB_copy w0 j w1 j M = some (eC M kB9 w0 w1 j) := by
  unfold mB_copy
  have o : ∀ (X : Mem) a b k, up X 15 w0 j a b 15 w1 j k = X 15 w1 j k := fun X a b k => up_ne (by omega)
  simp only [o]
  rw [if_pos hz]
  refine congrArg some ?_
  funext r w i k
  by_cases h : r = 15 ∧ w = w0 ∧ i = j
  · obtain ⟨rfl, rfl, rfl⟩ := h
    unfold eC
    by_cases hk : k < 12
    · rw [if_pos ⟨rfl, rfl, hk⟩]
      rcases (by omega : k = 0 ∨ k = 1 ∨ k = 2 ∨ k = 3 ∨ k = 4 ∨ k = 5 ∨ k = 6 ∨ k = 7 ∨ k = 8 ∨ k = 9 ∨ k = 10 ∨ k = 11) with rfl | rfl | rfl | rfl | rfl | rfl | rfl | rfl | rfl | rfl | rfl | rfl <;> simp [up]
    · rw [if_neg (fun q => hk q.2.2)]
      rw [up_ne (by omega), up_ne (by omega), up_ne (by omega), up_ne (by omega), up_ne (by omega), up_ne (by omega), up_ne (by omega), up_ne (by omega), up_ne (by omega), up_ne (by omega), up_ne (by omega), up_ne (by omega)]
  · have e : eC M kB9 w0 w1 j r w i k = M r w i k := if_neg (fun q => by
      have : kB9 r = 0 ∨ r = 15 := by unfold kB9; split <;> simp [*]
      omega)
    rw [e]
    rw [up_ne (by omega), up_ne (by omega), up_ne (by omega), up_ne (by omega), up_ne (by omega), up_ne (by omega), up_ne (by omega), up_ne (by omega), up_ne (by omega), up_ne (by omega), up_ne (by omega), up_ne (by omega)]
theorem cp_o {M : Mem} {r w i sp w2 i2 dp n r' w' i' k' : Nat} (h : ¬ (r' = r ∧ w' = w2 ∧ i' = i2)) : cpM M r w i sp w2 i2 dp n r' w' i' k' = M r' w' i' k' := if_neg (fun q => h ⟨q.1, q.2.1, q.2.2.1⟩)
theorem cp_i {M : Mem} {r w i w2 i2 n k : Nat} (h : k < n) : cpM M r w i 0 w2 i2 0 n r w2 i2 k = M r w i k := by
  unfold cpM
  rw [if_pos ⟨rfl, rfl, rfl, by omega, by omega⟩, Nat.zero_add, Nat.sub_zero]
theorem cp_k {M : Mem} {r w i w2 i2 n k : Nat} (h : ¬ k < n) : cpM M r w i 0 w2 i2 0 n r w2 i2 k = M r w2 i2 k := if_neg (by omega)
theorem C_copy_eq {w0 w1 j : Nat} (hw : w0 ≠ w1) (M : Mem) : mC_copy w0 j w1 j M = some (eC M kC w0 w1 j) := by
  unfold mC_copy
  have o : ∀ (X : Mem) a b k, up X 6 w0 j a b 6 w1 j k = X 6 w1 j k := fun X a b k => up_ne (by omega)
  simp only [o]
  refine congrArg some ?_
  funext r w i k
  by_cases h : w = w0 ∧ i = j
  · obtain ⟨rfl, rfl⟩ := h
    by_cases h6 : r = 6
    · subst h6
      rw [cp_o (by omega), cp_o (by omega)]
      unfold eC
      by_cases hk : k < 12
      · rw [if_pos ⟨rfl, rfl, hk⟩]
        revert k
        refine k12 ?_ ?_ ?_ ?_ ?_ ?_ ?_ ?_ ?_ ?_ ?_ ?_ <;> simp [up]
      · rw [if_neg (fun q => hk q.2.2)]
        rw [up_ne (by omega), up_ne (by omega), up_ne (by omega), up_ne (by omega), up_ne (by omega), up_ne (by omega), up_ne (by omega), up_ne (by omega), up_ne (by omega), up_ne (by omega), up_ne (by omega), up_ne (by omega)]
    · by_cases h7 : r = 7
      · subst h7
        rw [cp_o (by omega)]
        unfold eC
        by_cases hk : k < 12
        · rw [if_pos ⟨rfl, rfl, hk⟩, cp_i hk]
          rw [up_ne (by omega), up_ne (by omega), up_ne (by omega), up_ne (by omega), up_ne (by omega), up_ne (by omega), up_ne (by omega), up_ne (by omega), up_ne (by omega), up_ne (by omega), up_ne (by omega), up_ne (by omega)]
        · rw [if_neg (fun q => hk q.2.2), cp_k hk]
          rw [up_ne (by omega), up_ne (by omega), up_ne (by omega), up_ne (by omega), up_ne (by omega), up_ne (by omega), up_ne (by omega), up_ne (by omega), up_ne (by omega), up_ne (by omega), up_ne (by omega), up_ne (by omega)]
      · by_cases h8 : r = 8
        · subst h8
          unfold eC
          by_cases hk : k < 8
          · rw [if_pos ⟨rfl, rfl, hk⟩, cp_i hk, cp_o (by omega)]
            rw [up_ne (by omega), up_ne (by omega), up_ne (by omega), up_ne (by omega), up_ne (by omega), up_ne (by omega), up_ne (by omega), up_ne (by omega), up_ne (by omega), up_ne (by omega), up_ne (by omega), up_ne (by omega)]
          · rw [if_neg (fun q => hk q.2.2), cp_k hk, cp_o (by omega)]
            rw [up_ne (by omega), up_ne (by omega), up_ne (by omega), up_ne (by omega), up_ne (by omega), up_ne (by omega), up_ne (by omega), up_ne (by omega), up_ne (by omega), up_ne (by omega), up_ne (by omega), up_ne (by omega)]
        · have e : eC M kC w w1 i r w i k = M r w i k := if_neg (fun q => by
            have : kC r = 0 := by unfold kC; rw [if_neg h6, if_neg h7, if_neg h8]
            omega)
          rw [e, cp_o (by omega), cp_o (by omega)]
          rw [up_ne (by omega), up_ne (by omega), up_ne (by omega), up_ne (by omega), up_ne (by omega), up_ne (by omega), up_ne (by omega), up_ne (by omega), up_ne (by omega), up_ne (by omega), up_ne (by omega), up_ne (by omega)]
  · have e : eC M kC w0 w1 j r w i k = M r w i k := if_neg (fun q => h ⟨q.1, q.2.1⟩)
    rw [e, cp_o (by omega), cp_o (by omega)]
    rw [up_ne (by omega), up_ne (by omega), up_ne (by omega), up_ne (by omega), up_ne (by omega), up_ne (by omega), up_ne (by omega), up_ne (by omega), up_ne (by omega), up_ne (by omega), up_ne (by omega), up_ne (by omega)]
theorem U_copy_eq {w0 w1 j : Nat} (hw : w0 ≠ w1) (hj : j < 13) (M : Mem) : mU_copy w0 j w1 j M = some (eC M kU w0 w1 j) := by
  unfold mU_copy mU_begin
  have hl : lenB j = 50 := by unfold lenB; rw [if_pos hj]
  simp only [hl]
  rw [if_neg (by decide)]
  simp only [Option.bind_some]
  refine congrArg some ?_
  funext r w i k
  show cpM _ 13 w1 j 0 w0 j 0 50 r w i k = _
  by_cases h : w = w0 ∧ i = j
  · obtain ⟨rfl, rfl⟩ := h
    by_cases h6 : r = 12
    · subst h6
      rw [cp_o (by omega)]
      unfold eC
      by_cases hk : k < 3
      · rw [if_pos ⟨rfl, rfl, hk⟩]
        rcases (by omega : k = 0 ∨ k = 1 ∨ k = 2) with rfl | rfl | rfl <;> simp [up]
      · rw [if_neg (fun q => hk q.2.2)]
        rw [up_ne (by omega), up_ne (by omega), up_ne (by omega)]
    · by_cases h7 : r = 13
      · subst h7
        unfold eC
        by_cases hk : k < 50
        · rw [if_pos ⟨rfl, rfl, hk⟩, cp_i hk]
          rw [up_ne (by omega), up_ne (by omega), up_ne (by omega)]
        · rw [if_neg (fun q => hk q.2.2), cp_k hk]
          rw [up_ne (by omega), up_ne (by omega), up_ne (by omega)]
      · have e : eC M kU w w1 i r w i k = M r w i k := if_neg (fun q => by
          have : kU r = 0 := by unfold kU; rw [if_neg h6, if_neg h7]
          omega)
        rw [e, cp_o (by omega)]
        rw [up_ne (by omega), up_ne (by omega), up_ne (by omega)]
  · have e : eC M kU w0 w1 j r w i k = M r w i k := if_neg (fun q => h ⟨q.1, q.2.1⟩)
    rw [e, cp_o (by omega)]
    rw [up_ne (by omega), up_ne (by omega), up_ne (by omega)]
theorem W_copy_243 {w0 w1 Q : Nat} (hw : w0 ≠ w1) (M : Mem) (hT : M 1 w0 0 12 = nI Q) (hb : Q ≤ 24) (hz : ∀ b, b < Q → M 15 w1 b 11 = 0 ∨ M 15 w1 b 11 = 1) : ∀ (d i n : Nat), i + d = Q → d < n → mW_copy_243 n w0 w1 (nI i) (cR M kB9 w0 w1 i) = some (cR M kB9 w0 w1 Q) := by
  intro d
  induction d with
  | zero =>
    intro i n  hi hn
    obtain ⟨m, rfl⟩ : ∃ m, n = m + 1 := ⟨n - 1, by omega⟩
    show mW_copy_243b (mW_copy_243 m) w0 w1 (nI i) _ = _
    unfold mW_copy_243b
    have e : cR M kB9 w0 w1 i 1 w0 0 12 = nI Q := by rw [cR_o (fun q => by have : kB9 1 = 0 := rfl; omega), hT]
    rw [e, if_neg (nI_nlt (by omega) (by omega)), show i = Q by omega]
  | succ d ih =>
    intro i n  hi hn
    obtain ⟨m, rfl⟩ : ∃ m, n = m + 1 := ⟨n - 1, by omega⟩
    show mW_copy_243b (mW_copy_243 m) w0 w1 (nI i) _ = _
    unfold mW_copy_243b
    have e : cR M kB9 w0 w1 i 1 w0 0 12 = nI Q := by rw [cR_o (fun q => by have : kB9 1 = 0 := rfl; omega), hT]
    rw [e, if_pos (nI_lt (by omega) (by omega)), ixx_nI (by omega) (by decide), ixx_nI (by omega) (by decide), B_copy_eq hw _ (by rw [cR_o (by omega)]; exact hz i (by omega))]
    simp only [Option.bind_some]
    rw [cR_s hw, nI_1]
    exact ih (i + 1) m (by omega) (by omega)
theorem W_copy_212 {w0 w1 S : Nat} (hw : w0 ≠ w1) (M : Mem) (hT : M 1 w0 0 10 = nI S) (hb : S ≤ 12) : ∀ (d i n : Nat), i + d = S → d < n → mW_copy_212 n w0 w1 (nI i) (cR M kU w0 w1 i) = mW_copy_243 fuel w0 w1 0 (cR M kU w0 w1 S) := by
  intro d
  induction d with
  | zero =>
    intro i n  hi hn
    obtain ⟨m, rfl⟩ : ∃ m, n = m + 1 := ⟨n - 1, by omega⟩
    show mW_copy_212b (mW_copy_212 m) (mW_copy_243 fuel) w0 w1 (nI i) _ = _
    unfold mW_copy_212b
    have e : cR M kU w0 w1 i 1 w0 0 10 = nI S := by rw [cR_o (fun q => by have : kU 1 = 0 := rfl; omega), hT]
    rw [e, if_neg (nI_nlt (by omega) (by omega)), show i = S by omega]
  | succ d ih =>
    intro i n  hi hn
    obtain ⟨m, rfl⟩ : ∃ m, n = m + 1 := ⟨n - 1, by omega⟩
    show mW_copy_212b (mW_copy_212 m) (mW_copy_243 fuel) w0 w1 (nI i) _ = _
    unfold mW_copy_212b
    have e : cR M kU w0 w1 i 1 w0 0 10 = nI S := by rw [cR_o (fun q => by have : kU 1 = 0 := rfl; omega), hT]
    rw [e, if_pos (nI_lt (by omega) (by omega)), ixx_nI (by omega) (by decide), ixx_nI (by omega) (by decide), U_copy_eq hw (by omega)]
    simp only [Option.bind_some]
    rw [cR_s hw, nI_1]
    exact ih (i + 1) m (by omega) (by omega)
theorem W_copy_181 {w0 w1 L : Nat} (hw : w0 ≠ w1) (M : Mem) (hT : M 1 w0 0 8 = nI L) (hb : L ≤ 40) : ∀ (d i n : Nat), i + d = L → d < n → mW_copy_181 n w0 w1 (nI i) (cR M kL w0 w1 i) = mW_copy_212 fuel w0 w1 0 (cR M kL w0 w1 L) := by
  intro d
  induction d with
  | zero =>
    intro i n  hi hn
    obtain ⟨m, rfl⟩ : ∃ m, n = m + 1 := ⟨n - 1, by omega⟩
    show mW_copy_181b (mW_copy_181 m) (mW_copy_212 fuel) w0 w1 (nI i) _ = _
    unfold mW_copy_181b
    have e : cR M kL w0 w1 i 1 w0 0 8 = nI L := by rw [cR_o (fun q => by have : kL 1 = 0 := rfl; omega), hT]
    rw [e, if_neg (nI_nlt (by omega) (by omega)), show i = L by omega]
  | succ d ih =>
    intro i n  hi hn
    obtain ⟨m, rfl⟩ : ∃ m, n = m + 1 := ⟨n - 1, by omega⟩
    show mW_copy_181b (mW_copy_181 m) (mW_copy_212 fuel) w0 w1 (nI i) _ = _
    unfold mW_copy_181b
    have e : cR M kL w0 w1 i 1 w0 0 8 = nI L := by rw [cR_o (fun q => by have : kL 1 = 0 := rfl; omega), hT]
    rw [e, if_pos (nI_lt (by omega) (by omega)), ixx_nI (by omega) (by decide), ixx_nI (by omega) (by decide), L_copy_eq hw]
    simp only [Option.bind_some]
    rw [cR_s hw, nI_1]
    exact ih (i + 1) m (by omega) (by omega)
theorem W_copy_150 {w0 w1 C : Nat} (hw : w0 ≠ w1) (M : Mem) (hT : M 1 w0 0 6 = nI C) (hb : C ≤ 5) : ∀ (d i n : Nat), i + d = C → d < n → mW_copy_150 n w0 w1 (nI i) (cR M kC w0 w1 i) = mW_copy_181 fuel w0 w1 0 (cR M kC w0 w1 C) := by
  intro d
  induction d with
  | zero =>
    intro i n  hi hn
    obtain ⟨m, rfl⟩ : ∃ m, n = m + 1 := ⟨n - 1, by omega⟩
    show mW_copy_150b (mW_copy_150 m) (mW_copy_181 fuel) w0 w1 (nI i) _ = _
    unfold mW_copy_150b
    have e : cR M kC w0 w1 i 1 w0 0 6 = nI C := by rw [cR_o (fun q => by have : kC 1 = 0 := rfl; omega), hT]
    rw [e, if_neg (nI_nlt (by omega) (by omega)), show i = C by omega]
  | succ d ih =>
    intro i n  hi hn
    obtain ⟨m, rfl⟩ : ∃ m, n = m + 1 := ⟨n - 1, by omega⟩
    show mW_copy_150b (mW_copy_150 m) (mW_copy_181 fuel) w0 w1 (nI i) _ = _
    unfold mW_copy_150b
    have e : cR M kC w0 w1 i 1 w0 0 6 = nI C := by rw [cR_o (fun q => by have : kC 1 = 0 := rfl; omega), hT]
    rw [e, if_pos (nI_lt (by omega) (by omega)), ixx_nI (by omega) (by decide), ixx_nI (by omega) (by decide), C_copy_eq hw]
    simp only [Option.bind_some]
    rw [cR_s hw, nI_1]
    exact ih (i + 1) m (by omega) (by omega)
theorem W_copy_119 {w0 w1 T : Nat} (hw : w0 ≠ w1) (M : Mem) (hT : M 1 w0 0 2 = nI T) (hb : T ≤ 8) : ∀ (d i n : Nat), i + d = T → d < n → mW_copy_119 n w0 w1 (nI i) (cR M kT w0 w1 i) = mW_copy_150 fuel w0 w1 0 (cR M kT w0 w1 T) := by
  intro d
  induction d with
  | zero =>
    intro i n  hi hn
    obtain ⟨m, rfl⟩ : ∃ m, n = m + 1 := ⟨n - 1, by omega⟩
    show mW_copy_119b (mW_copy_119 m) (mW_copy_150 fuel) w0 w1 (nI i) _ = _
    unfold mW_copy_119b
    have e : cR M kT w0 w1 i 1 w0 0 2 = nI T := by rw [cR_o (fun q => by have : kT 1 = 0 := rfl; omega), hT]
    rw [e, if_neg (nI_nlt (by omega) (by omega)), show i = T by omega]
  | succ d ih =>
    intro i n  hi hn
    obtain ⟨m, rfl⟩ : ∃ m, n = m + 1 := ⟨n - 1, by omega⟩
    show mW_copy_119b (mW_copy_119 m) (mW_copy_150 fuel) w0 w1 (nI i) _ = _
    unfold mW_copy_119b
    have e : cR M kT w0 w1 i 1 w0 0 2 = nI T := by rw [cR_o (fun q => by have : kT 1 = 0 := rfl; omega), hT]
    rw [e, if_pos (nI_lt (by omega) (by omega)), ixx_nI (by omega) (by decide), ixx_nI (by omega) (by decide), T_copy_eq hw]
    simp only [Option.bind_some]
    rw [cR_s hw, nI_1]
    exact ih (i + 1) m (by omega) (by omega)
/-- counts, ways, tape, what waits -/
def cH (M : Mem) (w0 w1 : Nat) : Mem := cpM (cpM (cpM (up (up (up (up (up (up (up (up (up M 1 w0 0 0 (M 1 w1 0 0)) 1 w0 0 2 (M 1 w1 0 2)) 1 w0 0 3 (M 1 w1 0 3)) 1 w0 0 6 (M 1 w1 0 6)) 1 w0 0 8 (M 1 w1 0 8)) 1 w0 0 10 (M 1 w1 0 10)) 1 w0 0 12 (M 1 w1 0 12)) 1 w0 0 14 (M 1 w1 0 14)) 1 w0 0 16 (M 1 w1 0 16)) 4 w1 0 0 w0 0 0 64) 13 w1 12 0 w0 12 0 50) 16 w1 0 0 w0 0 0 20
theorem cH_o {M : Mem} {w0 w1 r w i k : Nat} (h : ¬ (w = w0 ∧ (r = 1 ∨ r = 4 ∨ (r = 13 ∧ i = 12) ∨ r = 16))) : cH M w0 w1 r w i k = M r w i k := by
  unfold cH
  rw [cp_o (by omega), cp_o (by omega), cp_o (by omega), up_ne (by omega), up_ne (by omega), up_ne (by omega), up_ne (by omega), up_ne (by omega), up_ne (by omega), up_ne (by omega), up_ne (by omega), up_ne (by omega)]
theorem cH_4 {M : Mem} {w0 w1 k : Nat} (hw : w0 ≠ w1) (hk : k < 64) : cH M w0 w1 4 w0 0 k = M 4 w1 0 k := by
  unfold cH
  rw [cp_o (by omega), cp_o (by omega), cp_i hk, up_ne (by omega), up_ne (by omega), up_ne (by omega), up_ne (by omega), up_ne (by omega), up_ne (by omega), up_ne (by omega), up_ne (by omega), up_ne (by omega)]
theorem cH_13 {M : Mem} {w0 w1 k : Nat} (hw : w0 ≠ w1) (hk : k < 50) : cH M w0 w1 13 w0 12 k = M 13 w1 12 k := by
  unfold cH
  rw [cp_o (by omega), cp_i hk, cp_o (by omega), up_ne (by omega), up_ne (by omega), up_ne (by omega), up_ne (by omega), up_ne (by omega), up_ne (by omega), up_ne (by omega), up_ne (by omega), up_ne (by omega)]
theorem cH_16 {M : Mem} {w0 w1 k : Nat} (hw : w0 ≠ w1) (hk : k < 20) : cH M w0 w1 16 w0 0 k = M 16 w1 0 k := by
  unfold cH
  rw [cp_i hk, cp_o (by omega), cp_o (by omega), up_ne (by omega), up_ne (by omega), up_ne (by omega), up_ne (by omega), up_ne (by omega), up_ne (by omega), up_ne (by omega), up_ne (by omega), up_ne (by omega)]
theorem cH_1 {M : Mem} {w0 w1 : Nat} (hw : w0 ≠ w1) : ∀ k, k < 9 → cH M w0 w1 1 w0 0 (slC k) = M 1 w1 0 (slC k) := by
  intro k hk
  unfold cH
  rw [cp_o (by omega), cp_o (by omega), cp_o (by omega)]
  rcases (by omega : k = 0 ∨ k = 1 ∨ k = 2 ∨ k = 3 ∨ k = 4 ∨ k = 5 ∨ k = 6 ∨ k = 7 ∨ k = 8) with rfl | rfl | rfl | rfl | rfl | rfl | rfl | rfl | rfl <;> simp [up, slC]
/-- a world is another's image -/
def cW (M : Mem) (w0 w1 : Nat) (f : Row) : Mem := cR (cR (cR (cR (cR (cH M w0 w1) kT w0 w1 (cn f 0)) kC w0 w1 (cn f 2)) kL w0 w1 (cn f 3)) kU w0 w1 (cn f 4)) kB9 w0 w1 (cn f 5)
theorem W_copy_eq {B : Nat} {M : Mem} {w0 w1 : Nat} {f : Row} (hw : w0 ≠ w1) (h : RW B M w1 f) : mW_copy w0 w1 M = some (cW M w0 w1 f) := by
  have g := h.c
  have b0 := g.b0
  have b2 := g.b2
  have b3 := g.b3
  have b4 := g.b4
  have b5 := g.b5
  unfold mW_copy mW_copyb
  have o : ∀ (X : Mem) a b k, up X 1 w0 0 a b 1 w1 0 k = X 1 w1 0 k := fun X a b k => up_ne (by omega)
  simp only [o]
  rw [if_neg (by decide)]
  have hH : ∀ k, k < 9 → cH M w0 w1 1 w0 0 (slC k) = nI (cn f k) := fun k hk => by rw [cH_1 hw k hk, (g k hk).1, (g k hk).2.1]
  have z1 := W_copy_119 hw (cH M w0 w1) (T := cn f 0) (hH 0 (by decide)) b0 (cn f 0) 0 fuel (by omega) (by unfold fuel; omega)
  have z2 := W_copy_150 hw (cR (cH M w0 w1) kT w0 w1 (cn f 0)) (C := cn f 2) (by rw [cR_o (fun q => by have : kT 1 = 0 := rfl; omega)]; exact hH 2 (by decide)) b2 (cn f 2) 0 fuel (by omega) (by unfold fuel; omega)
  have z3 := W_copy_181 hw (cR (cR (cH M w0 w1) kT w0 w1 (cn f 0)) kC w0 w1 (cn f 2)) (L := cn f 3) (by rw [cR_o (fun q => by have : kC 1 = 0 := rfl; omega), cR_o (fun q => by have : kT 1 = 0 := rfl; omega)]; exact hH 3 (by decide)) b3 (cn f 3) 0 fuel (by omega) (by unfold fuel; omega)
  have z4 := W_copy_212 hw (cR (cR (cR (cH M w0 w1) kT w0 w1 (cn f 0)) kC w0 w1 (cn f 2)) kL w0 w1 (cn f 3)) (S := cn f 4) (by rw [cR_o (fun q => by have : kL 1 = 0 := rfl; omega), cR_o (fun q => by have : kC 1 = 0 := rfl; omega), cR_o (fun q => by have : kT 1 = 0 := rfl; omega)]; exact hH 4 (by decide)) b4 (cn f 4) 0 fuel (by omega) (by unfold fuel; omega)
  have z5 := W_copy_243 hw (cR (cR (cR (cR (cH M w0 w1) kT w0 w1 (cn f 0)) kC w0 w1 (cn f 2)) kL w0 w1 (cn f 3)) kU w0 w1 (cn f 4)) (Q := cn f 5) (by rw [cR_o (fun q => by have : kU 1 = 0 := rfl; omega), cR_o (fun q => by have : kL 1 = 0 := rfl; omega), cR_o (fun q => by have : kC 1 = 0 := rfl; omega), cR_o (fun q => by have : kT 1 = 0 := rfl; omega)]; exact hH 5 (by decide)) b5 (fun b hb => by
    rw [cR_o (by omega), cR_o (by omega), cR_o (by omega), cR_o (by omega), cH_o (by omega), (h.b b hb).1 11 (by decide)]
    exact (h.b b hb).2.2.2.2.2.2.2.2) (cn f 5) 0 fuel (by omega) (by unfold fuel; omega)
  rw [cR_0] at z1 z2 z3 z4 z5
  have y1 : mW_copy_119 fuel w0 w1 0 (cH M w0 w1) = _ := z1
  have y2 : mW_copy_150 fuel w0 w1 0 (cR (cH M w0 w1) kT w0 w1 (cn f 0)) = _ := z2
  have y3 : mW_copy_181 fuel w0 w1 0 (cR (cR (cH M w0 w1) kT w0 w1 (cn f 0)) kC w0 w1 (cn f 2)) = _ := z3
  have y4 : mW_copy_212 fuel w0 w1 0 (cR (cR (cR (cH M w0 w1) kT w0 w1 (cn f 0)) kC w0 w1 (cn f 2)) kL w0 w1 (cn f 3)) = _ := z4
  exact y1.trans (y2.trans (y3.trans (y4.trans z5)))
theorem cW_o {M : Mem} {w0 w1 : Nat} {f : Row} {r w i k : Nat} (h : w ≠ w0 ∨ r = 0 ∨ r = 17 ∨ 18 ≤ r) : cW M w0 w1 f r w i k = M r w i k := by
  have hs : w = w0 → kT r = 0 ∧ kC r = 0 ∧ kL r = 0 ∧ kU r = 0 ∧ kB9 r = 0 := by
    intro e
    unfold kT kC kL kU kB9
    rw [if_neg (by omega), if_neg (by omega), if_neg (by omega), if_neg (by omega), if_neg (by omega), if_neg (by omega), if_neg (by omega), if_neg (by omega)]
    exact ⟨rfl, rfl, rfl, rfl, rfl⟩
  unfold cW
  rw [cR_o (fun q => by have := hs q.1; omega), cR_o (fun q => by have := hs q.1; omega), cR_o (fun q => by have := hs q.1; omega), cR_o (fun q => by have := hs q.1; omega), cR_o (fun q => by have := hs q.1; omega), cH_o (by omega)]
/-- the copy has what the other has -/
theorem RW.copied {B : Nat} {M : Mem} {w0 w1 : Nat} {f : Row} (hw : w0 ≠ w1) (h : RW B M w1 f) : RW B (cW M w0 w1 f) w0 f := by
  have g := h.c
  have b0 := g.b0
  have b1 := g.b1
  have b2 := g.b2
  have b3 := g.b3
  have b4 := g.b4
  have b5 := g.b5
  have b7 := g.b7
  have b8 := g.b8
  have nT : ∀ r, r ≠ 3 → kT r = 0 := fun r q => if_neg q
  have nC : ∀ r, r ≠ 6 → r ≠ 7 → r ≠ 8 → kC r = 0 := fun r q1 q2 q3 => by unfold kC; rw [if_neg q1, if_neg q2, if_neg q3]
  have nL : ∀ r, r ≠ 10 → kL r = 0 := fun r q => if_neg q
  have nU : ∀ r, r ≠ 12 → r ≠ 13 → kU r = 0 := fun r q1 q2 => by unfold kU; rw [if_neg q1, if_neg q2]
  have nB : ∀ r, r ≠ 15 → kB9 r = 0 := fun r q => if_neg q
  have vT : ∀ r w i k, r ≠ 3 → cR (cH M w0 w1) kT w0 w1 (cn f 0) r w i k = cH M w0 w1 r w i k := fun r w i k q => cR_o (fun z => by have := nT r q; omega)
  have vC : ∀ r w i k, r ≠ 6 → r ≠ 7 → r ≠ 8 → cR (cR (cH M w0 w1) kT w0 w1 (cn f 0)) kC w0 w1 (cn f 2) r w i k = cR (cH M w0 w1) kT w0 w1 (cn f 0) r w i k := fun r w i k q1 q2 q3 => cR_o (fun z => by have := nC r q1 q2 q3; omega)
  have vL : ∀ r w i k, r ≠ 10 → cR (cR (cR (cH M w0 w1) kT w0 w1 (cn f 0)) kC w0 w1 (cn f 2)) kL w0 w1 (cn f 3) r w i k = cR (cR (cH M w0 w1) kT w0 w1 (cn f 0)) kC w0 w1 (cn f 2) r w i k := fun r w i k q => cR_o (fun z => by have := nL r q; omega)
  have vU : ∀ r w i k, r ≠ 12 → r ≠ 13 → cR (cR (cR (cR (cH M w0 w1) kT w0 w1 (cn f 0)) kC w0 w1 (cn f 2)) kL w0 w1 (cn f 3)) kU w0 w1 (cn f 4) r w i k = cR (cR (cR (cH M w0 w1) kT w0 w1 (cn f 0)) kC w0 w1 (cn f 2)) kL w0 w1 (cn f 3) r w i k := fun r w i k q1 q2 => cR_o (fun z => by have := nU r q1 q2; omega)
  have vB : ∀ r w i k, r ≠ 15 → cW M w0 w1 f r w i k = cR (cR (cR (cR (cH M w0 w1) kT w0 w1 (cn f 0)) kC w0 w1 (cn f 2)) kL w0 w1 (cn f 3)) kU w0 w1 (cn f 4) r w i k := fun r w i k q => cR_o (fun z => by have := nB r q; omega)
  have hw' : w1 ≠ w0 := fun e => hw e.symm
  refine ⟨g.cong (fun k hk => ?_) (fun _ _ => rfl), fun t ht => (h.t t ht).cong (Nat.le_refl _) (fun k hk => ?_) (fun _ _ _ => rfl), h.r.cong b1 (fun k hk => ?_) (Nat.le_refl _) rfl (fun _ _ _ => rfl), fun c hc => (h.p c hc).cong (Nat.le_refl _) (fun k hk _ _ => ?_) (fun k hk => ?_) (Nat.le_refl _) (fun _ _ _ => rfl), h.f.cong b3 (fun c hc => ⟨?_, ?_⟩) rfl rfl (fun _ _ _ => rfl), fun l hl => (h.l l hl).cong (fun k hk => ?_) (Nat.le_refl _) (Nat.le_refl _) (fun _ _ _ => rfl), fun s hs => (h.s s hs).cong (fun k hk => ?_) (fun k hk => ?_) (fun _ _ _ => rfl), fun b hb => (h.b b hb).cong (Nat.le_refl _) (fun k hk => ?_) (Nat.le_refl _) (Nat.le_refl _) (Nat.le_refl _) (fun _ _ _ => rfl), h.w.cong b2 (fun c hc k hk => ?_) rfl (fun _ _ _ => rfl), h.a.cong b7 (fun k hk => ?_) rfl (fun _ _ _ => rfl), h.q.cong b8 (fun k hk => ?_) rfl (fun _ _ _ => rfl)⟩
  · rw [vB _ _ _ _ (by decide), vU _ _ _ _ (by decide) (by decide), vL _ _ _ _ (by decide), vC _ _ _ _ (by decide) (by decide) (by decide), vT _ _ _ _ (by decide), cH_1 hw k hk]
  · rw [vB _ _ _ _ (by decide), vU _ _ _ _ (by decide) (by decide), vL _ _ _ _ (by decide), vC _ _ _ _ (by decide) (by decide) (by decide), cR_i ht (show k < kT 3 from hk), cH_o (by omega)]
  · rw [vB _ _ _ _ (by decide), vU _ _ _ _ (by decide) (by decide), vL _ _ _ _ (by decide), vC _ _ _ _ (by decide) (by decide) (by decide), vT _ _ _ _ (by decide), cH_4 hw hk]
  · rw [vB _ _ _ _ (by decide), vU _ _ _ _ (by decide) (by decide), vL _ _ _ _ (by decide), cR_i hc (show k < kC 6 from hk), vT _ _ _ _ (by decide), cH_o (by omega)]
  · rw [vB _ _ _ _ (by decide), vU _ _ _ _ (by decide) (by decide), vL _ _ _ _ (by decide), cR_i hc (show k < kC 7 from hk), vT _ _ _ _ (by decide), cH_o (by omega)]
  · rw [vB _ _ _ _ (by decide), vU _ _ _ _ (by decide) (by decide), vL _ _ _ _ (by decide), cR_i hc (show 6 < kC 6 by decide), vT _ _ _ _ (by decide), cH_o (by omega)]
  · rw [vB _ _ _ _ (by decide), vU _ _ _ _ (by decide) (by decide), vL _ _ _ _ (by decide), cR_i hc (show 7 < kC 6 by decide), vT _ _ _ _ (by decide), cH_o (by omega)]
  · rw [vB _ _ _ _ (by decide), vU _ _ _ _ (by decide) (by decide), cR_i hl (show k < kL 10 from hk), vC _ _ _ _ (by decide) (by decide) (by decide), vT _ _ _ _ (by decide), cH_o (by omega)]
  · rw [vB _ _ _ _ (by decide), cR_i hs (show k < kU 12 from hk), vL _ _ _ _ (by decide), vC _ _ _ _ (by decide) (by decide) (by decide), vT _ _ _ _ (by decide), cH_o (by omega)]
  · rw [vB _ _ _ _ (by decide), cR_i hs (show k < kU 13 from hk), vL _ _ _ _ (by decide), vC _ _ _ _ (by decide) (by decide) (by decide), vT _ _ _ _ (by decide), cH_o (by omega)]
  · rw [show cW M w0 w1 f 15 w0 b k = _ from cR_i hb (show k < kB9 15 from hk), vU _ _ _ _ (by decide) (by decide), vL _ _ _ _ (by decide), vC _ _ _ _ (by decide) (by decide) (by decide), vT _ _ _ _ (by decide), cH_o (by omega)]
  · rw [vB _ _ _ _ (by decide), vU _ _ _ _ (by decide) (by decide), vL _ _ _ _ (by decide), cR_i hc (show k < kC 8 from hk), vT _ _ _ _ (by decide), cH_o (by omega)]
  · have e : cR (cR (cR (cR (cH M w0 w1) kT w0 w1 (cn f 0)) kC w0 w1 (cn f 2)) kL w0 w1 (cn f 3)) kU w0 w1 (cn f 4) 13 w0 12 k = cR (cR (cR (cH M w0 w1) kT w0 w1 (cn f 0)) kC w0 w1 (cn f 2)) kL w0 w1 (cn f 3) 13 w0 12 k := cR_o (by omega)
    rw [vB _ _ _ _ (by decide), e, vL _ _ _ _ (by decide), vC _ _ _ _ (by decide) (by decide) (by decide), vT _ _ _ _ (by decide), cH_13 hw hk]
  · rw [vB _ _ _ _ (by decide), vU _ _ _ _ (by decide) (by decide), vL _ _ _ _ (by decide), vC _ _ _ _ (by decide) (by decide) (by decide), vT _ _ _ _ (by decide), cH_16 hw hk]
theorem K_image_2 (N : Mem) : ∀ (d i n : Nat), i + d = 1502 → d < n → mK_image_2 n (nI i) (fm N 42 0 0 0 i (N 41 0 0)) = some (N 40 0 0 4 + 1, up (fm N 42 0 0 0 1502 (N 41 0 0)) 40 0 0 4 (N 40 0 0 4 + 1)) := by
  intro d
  induction d with
  | zero =>
    intro i n  hi hn
    obtain ⟨m, rfl⟩ : ∃ m, n = m + 1 := ⟨n - 1, by omega⟩
    show mK_image_2b (mK_image_2 m) (nI i) _ = _
    unfold mK_image_2b
    have e : fm N 42 0 0 0 1502 (N 41 0 0) 40 0 0 4 = N 40 0 0 4 := fm_o (by omega)
    rw [if_neg (show ¬ nI i < (1502 : Int32) from nI_nlt (b := 1502) (by omega) (by omega)), show i = 1502 by omega]
    simp only [up_eq, e]
  | succ d ih =>
    intro i n  hi hn
    obtain ⟨m, rfl⟩ : ∃ m, n = m + 1 := ⟨n - 1, by omega⟩
    show mK_image_2b (mK_image_2 m) (nI i) _ = _
    unfold mK_image_2b
    rw [if_pos (show nI i < (1502 : Int32) from nI_lt (b := 1502) (by omega) (by omega)), ixx_nI (by omega) (by decide), ixx_nI (by omega) (by decide), nI_1, fm_o (by omega)]
    have z := ih (i + 1) m (by omega) (by omega)
    rw [← fm_s0] at z
    exact z
theorem K_restore_15 (N : Mem) : ∀ (d i n : Nat), i + d = 1502 → d < n → mK_restore_15 n (nI i) (fm N 41 0 0 0 i (N 42 0 0)) = some (N 42 0 0 6, fm N 41 0 0 0 1502 (N 42 0 0)) := by
  intro d
  induction d with
  | zero =>
    intro i n  hi hn
    obtain ⟨m, rfl⟩ : ∃ m, n = m + 1 := ⟨n - 1, by omega⟩
    show mK_restore_15b (mK_restore_15 m) (nI i) _ = _
    unfold mK_restore_15b
    have e : fm N 41 0 0 0 1502 (N 42 0 0) 41 0 0 6 = N 42 0 0 6 := by
      have := fm_i (M := N) (r := 41) (w := 0) (i := 0) (a := 0) (v := N 42 0 0) (show 6 < 1502 by decide)
      rw [Nat.zero_add] at this
      exact this
    rw [if_neg (show ¬ nI i < (1502 : Int32) from nI_nlt (b := 1502) (by omega) (by omega)), show i = 1502 by omega, e]
  | succ d ih =>
    intro i n  hi hn
    obtain ⟨m, rfl⟩ : ∃ m, n = m + 1 := ⟨n - 1, by omega⟩
    show mK_restore_15b (mK_restore_15 m) (nI i) _ = _
    unfold mK_restore_15b
    rw [if_pos (show nI i < (1502 : Int32) from nI_lt (b := 1502) (by omega) (by omega)), ixx_nI (by omega) (by decide), ixx_nI (by omega) (by decide), nI_1, fm_o (by omega)]
    have z := ih (i + 1) m (by omega) (by omega)
    rw [← fm_s0] at z
    exact z
/-- rows that agree at their 1502 places -/
theorem RW.row {B : Nat} {M : Mem} {w : Nat} {f f' : Row} (h : RW B M w f) (hf : ∀ k, k < 1502 → f' k = f k) : RW B M w f' := by
  have g := h.c
  have b0 := g.b0
  have b1 := g.b1
  have b2 := g.b2
  have b3 := g.b3
  have b4 := g.b4
  have b5 := g.b5
  have b7 := g.b7
  have b8 := g.b8
  have c0 : cn f' 0 = cn f 0 := cn_same (hf 0 (by decide))
  have c2 : cn f' 2 = cn f 2 := cn_same (hf 2 (by decide))
  have c3 : cn f' 3 = cn f 3 := cn_same (hf 3 (by decide))
  have c4 : cn f' 4 = cn f 4 := cn_same (hf 4 (by decide))
  have c5 : cn f' 5 = cn f 5 := cn_same (hf 5 (by decide))
  have c6 : cn f' 6 = cn f 6 := cn_same (hf 6 (by decide))
  refine ⟨g.cong (fun k hk => rfl) (fun k hk => hf k (by omega)), fun t ht => (h.t t (by omega)).cong (Nat.le_refl _) (fun k hk => rfl) (fun k h1 h2 => hf k (by omega)), h.r.cong b1 (fun k hk => rfl) (by omega) (hf 1 (by decide)) (fun k h1 h2 => hf k (by omega)), fun c hc => (h.p c (by omega)).cong (Nat.le_refl _) (fun k hk _ _ => rfl) (fun k hk => rfl) (by omega) (fun k h1 h2 => hf k (by omega)), h.f.cong b3 (fun c hc => ⟨rfl, rfl⟩) (hf 2 (by decide)) (hf 3 (by decide)) (fun k h1 h2 => hf k (by omega)), fun l hl => (h.l l (by omega)).cong (fun k hk => rfl) (by omega) (by omega) (fun k h1 h2 => hf k (by omega)), fun s hs => (h.s s (by omega)).cong (fun k hk => rfl) (fun k hk => rfl) (fun k h1 h2 => hf k (by omega)), fun b hb => (h.b b (by omega)).cong (Nat.le_refl _) (fun k hk => rfl) (by omega) (by omega) (by omega) (fun k h1 h2 => hf k (by omega)), h.w.cong b2 (fun c hc k hk => rfl) (hf 2 (by decide)) (fun k h1 h2 => hf k (by omega)), h.a.cong b7 (fun k hk => rfl) (hf 7 (by decide)) (fun k h1 h2 => hf k (by omega)), h.q.cong b8 (fun k hk => rfl) (hf 8 (by decide)) (fun k h1 h2 => hf k (by omega))⟩
theorem RW.cong0 {B B' : Nat} {M M' : Mem} {w w' : Nat} {f : Row} (h : RW B M w f) (hB : B ≤ B') (hM : ∀ r i k, r ≠ 17 → r < 18 → r ≠ 0 → M' r w' i k = M r w i k) : RW B' M' w' f := by
  have g := h.c
  refine ⟨g.cong (fun k hk => hM _ _ _ (by omega) (by omega) (by omega)) (fun _ _ => rfl), fun t ht => (h.t t ht).cong hB (fun k _ => hM _ _ _ (by omega) (by omega) (by omega)) (fun _ _ _ => rfl), h.r.cong g.b1 (fun k _ => hM _ _ _ (by omega) (by omega) (by omega)) (Nat.le_refl _) rfl (fun _ _ _ => rfl), fun c hc => (h.p c hc).cong hB (fun k _ _ _ => hM _ _ _ (by omega) (by omega) (by omega)) (fun k _ => hM _ _ _ (by omega) (by omega) (by omega)) (Nat.le_refl _) (fun _ _ _ => rfl), h.f.cong g.b3 (fun c _ => ⟨hM _ _ _ (by omega) (by omega) (by omega), hM _ _ _ (by omega) (by omega) (by omega)⟩) rfl rfl (fun _ _ _ => rfl), fun l hl => (h.l l hl).cong (fun k _ => hM _ _ _ (by omega) (by omega) (by omega)) (Nat.le_refl _) (Nat.le_refl _) (fun _ _ _ => rfl), fun s hs => (h.s s hs).cong (fun k _ => hM _ _ _ (by omega) (by omega) (by omega)) (fun k _ => hM _ _ _ (by omega) (by omega) (by omega)) (fun _ _ _ => rfl), fun b hb => (h.b b hb).cong hB (fun k _ => hM _ _ _ (by omega) (by omega) (by omega)) (Nat.le_refl _) (Nat.le_refl _) (Nat.le_refl _) (fun _ _ _ => rfl), h.w.cong g.b2 (fun c _ k _ => hM _ _ _ (by omega) (by omega) (by omega)) rfl (fun _ _ _ => rfl), h.a.cong g.b7 (fun k _ => hM _ _ _ (by omega) (by omega) (by omega)) rfl (fun _ _ _ => rfl), h.q.cong g.b8 (fun k _ => hM _ _ _ (by omega) (by omega) (by omega)) rfl (fun _ _ _ => rfl)⟩
theorem fm_row {N : Mem} {r n : Nat} {v : Row} {k : Nat} (h : k < n) : fm N r 0 0 0 n v r 0 0 k = v k := by
  have := fm_i (M := N) (r := r) (w := 0) (i := 0) (a := 0) (v := v) h
  rwa [Nat.zero_add] at this
theorem s_image {B : Nat} {M N : Mem} (h : Rel B M N) : Sim (Rel (B + 1)) (mF_image M) (mK_image N) := by
  unfold mF_image mK_image mK_imageb
  rw [W_copy_eq (by decide) h.1]
  simp only [Option.bind_some, up_eq]
  have z := K_image_2 N 1502 0 fuel (by omega) (by unfold fuel; omega)
  rw [fm_0] at z
  rw [show mK_image_2 fuel 0 N = _ from z, cW_o (by omega), h.2.2.1]
  refine Sim.ret ⟨?_, .inr ?_, ?_⟩
  · have e : up (fm N 42 0 0 0 1502 (N 41 0 0)) 40 0 0 4 (N 40 0 0 4 + 1) 41 0 0 = N 41 0 0 := by
      funext k
      rw [up_ne (by omega), fm_o (by omega)]
    rw [e]
    exact h.1.cong0 (by omega) fun r i k h17 h18 h0 => by rw [up_ne (by omega), cW_o (by omega)]
  · refine RW.row (f := N 41 0 0) ?_ (fun k hk => by rw [up_ne (by omega), fm_row hk])
    exact (RW.copied (w0 := 1) (by decide) h.1).cong0 (by omega) fun r i k h17 h18 h0 => up_ne (by omega)
  · obtain ⟨y1, y2, y3, y4, y5, y6⟩ := h.2.2
    have e22 : up (fm N 42 0 0 0 1502 (N 41 0 0)) 40 0 0 4 (N 40 0 0 4 + 1) 40 0 0 22 = N 40 0 0 22 := by rw [up_ne (by omega), fm_o (by omega)]
    refine ⟨by rw [up_eq, up_eq], fun k hk => ?_, fun s hs => ?_, ?_, ?_, fun i hi => ?_⟩
    · rw [up_ne (by omega), up_ne (by omega), fm_o (by omega), cW_o (by omega)]; exact y2 k hk
    · obtain ⟨w1, w2, w3, w4⟩ := y3 s hs
      have a1 : up (fm N 42 0 0 0 1502 (N 41 0 0)) 40 0 0 4 (N 40 0 0 4 + 1) 64 0 0 s = N 64 0 0 s := by rw [up_ne (by omega), fm_o (by omega)]
      have a2 : up (fm N 42 0 0 0 1502 (N 41 0 0)) 40 0 0 4 (N 40 0 0 4 + 1) 65 0 0 s = N 65 0 0 s := by rw [up_ne (by omega), fm_o (by omega)]
      have a3 : ∀ v k, up (cW M 1 0 (N 41 0 0)) 0 0 0 7 v 19 0 s k = M 19 0 s k := fun v k => by rw [up_ne (by omega), cW_o (by omega)]
      rw [a1, a2, a3, a3]
      refine ⟨w1, w2, w3, fun i hi => ?_⟩
      rw [up_ne (by omega), up_ne (by omega), fm_o (by omega), cW_o (by omega)]; exact w4 i hi
    · rw [e22, up_ne (by omega), cW_o (by omega)]; exact y4
    · rw [e22]; exact y5
    · rw [cn_same (f := N 40 0 0) e22] at hi
      rw [up_ne (by omega), up_ne (by omega), fm_o (by omega), cW_o (by omega)]; exact y6 i hi
theorem s_restore {B : Nat} {M N : Mem} (h : Rel B M N) : Sim (Rel (B + 1)) (mF_restore M) (mK_restore N) := by
  unfold mF_restore mK_restore mK_restoreb
  rw [h.2.2.1, bindE, bindE]
  refine Sim.ite (fun _ => Sim.f2 h) (fun hz => ?_)
  have hk := h.2.1.resolve_left hz
  rw [W_copy_eq (by decide) hk]
  simp only [Option.bind_some]
  have z := K_restore_15 N 1502 0 fuel (by omega) (by unfold fuel; omega)
  rw [fm_0] at z
  have hc := RW.copied (w0 := 0) (by decide) hk
  rw [show mK_restore_15 fuel 0 N = _ from z, show cW M 0 1 (N 42 0 0) 1 0 0 0 = N 42 0 0 6 from hc.c.e6]
  refine Sim.ret (h.world (by omega) ?_ (fun r w i k _ _ _ _ q => cW_o (by omega)) (fun r k q => fm_o (by omega)))
  refine RW.row (f := N 42 0 0) ?_ (fun k hk => fm_row hk)
  exact hc.cong (by omega) fun r i k h17 h18 => rfl
