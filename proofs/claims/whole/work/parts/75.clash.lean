/-! ===== clashes ===== -/
def mx (x y : Int32) : Int32 := if x < y then y else x
/-- the first day in both of two bonds -/
def bth (f : Row) (a b : Nat) : Int32 := if (mx (f (1056 + 14 * a + 2)) (f (1056 + 14 * b + 2)) < 0 ∨ f (1056 + 14 * a + 2) < 0 ∨ f (1056 + 14 * b + 2) < 0) ∨ ¬ (mx (f (1056 + 14 * a + 2)) (f (1056 + 14 * b + 2)) ≤ f (1056 + 14 * a + 3) ∧ mx (f (1056 + 14 * a + 2)) (f (1056 + 14 * b + 2)) ≤ f (1056 + 14 * b + 3)) then -1 else mx (f (1056 + 14 * a + 2)) (f (1056 + 14 * b + 2))
theorem mx_le (x y : Int32) : (if x ≤ y then y else x) = mx x y := by
  unfold mx
  by_cases h : x < y
  · rw [if_pos h, if_pos (Int32.le_of_lt h)]
  · rw [if_neg h]
    by_cases h2 : x ≤ y
    · rw [if_pos h2]
      exact Int32.le_antisymm (Int32.not_lt.mp h) h2
    · rw [if_neg h2]
theorem K_greater_eq (x y : Int32) (N : Mem) : mK_greater x y N = some (mx x y, N) := by
  unfold mK_greater
  rw [← mx_le]
  split <;> rfl
theorem K_both_eq {a b : Nat} (ha : a < 24) (hb : b < 24) (N : Mem) : mK_both (nI a) (nI b) N = some (bth (N 41 0 0) a b, N) := by
  unfold mK_both bth
  simp only [K_bond_2 ha, K_bond_2 hb, K_bond_3 ha, K_bond_3 hb, K_greater_eq, Option.bind_some]
  by_cases z1 : mx (N 41 0 0 (1056 + 14 * a + 2)) (N 41 0 0 (1056 + 14 * b + 2)) < 0
  · simp [z1]
  · by_cases z2 : N 41 0 0 (1056 + 14 * a + 2) < 0
    · simp [z2]
    · by_cases z3 : N 41 0 0 (1056 + 14 * b + 2) < 0
      · simp [z3]
      · by_cases z4 : mx (N 41 0 0 (1056 + 14 * a + 2)) (N 41 0 0 (1056 + 14 * b + 2)) ≤ N 41 0 0 (1056 + 14 * a + 3)
        · by_cases z5 : mx (N 41 0 0 (1056 + 14 * a + 2)) (N 41 0 0 (1056 + 14 * b + 2)) ≤ N 41 0 0 (1056 + 14 * b + 3)
          · simp [z1, z2, z3, z4, z5]
          · simp [z1, z2, z3, z4, z5]
        · simp [z1, z2, z3, z4]
theorem bth_neg {f : Row} {a b : Nat} (h : bth f a b < 0) : bth f a b = -1 := by
  unfold bth at h ⊢
  by_cases z : (mx (f (1056 + 14 * a + 2)) (f (1056 + 14 * b + 2)) < 0 ∨ f (1056 + 14 * a + 2) < 0 ∨ f (1056 + 14 * b + 2) < 0) ∨ ¬ (mx (f (1056 + 14 * a + 2)) (f (1056 + 14 * b + 2)) ≤ f (1056 + 14 * a + 3) ∧ mx (f (1056 + 14 * a + 2)) (f (1056 + 14 * b + 2)) ≤ f (1056 + 14 * b + 3))
  · rw [if_pos z]
  · rw [if_neg z] at h
    exact absurd (.inl (.inl h)) z
theorem bth_pos {f : Row} {a b : Nat} (h : ¬ bth f a b < 0) : bth f a b = mx (f (1056 + 14 * a + 2)) (f (1056 + 14 * b + 2)) ∧ bth f a b ≤ f (1056 + 14 * a + 3) ∧ bth f a b ≤ f (1056 + 14 * b + 3) := by
  unfold bth at h ⊢
  by_cases z : (mx (f (1056 + 14 * a + 2)) (f (1056 + 14 * b + 2)) < 0 ∨ f (1056 + 14 * a + 2) < 0 ∨ f (1056 + 14 * b + 2) < 0) ∨ ¬ (mx (f (1056 + 14 * a + 2)) (f (1056 + 14 * b + 2)) ≤ f (1056 + 14 * a + 3) ∧ mx (f (1056 + 14 * a + 2)) (f (1056 + 14 * b + 2)) ≤ f (1056 + 14 * b + 3))
  · rw [if_pos z] at h
    exact absurd (show (-1 : Int32) < 0 by decide) h
  · rw [if_neg z]
    exact ⟨rfl, (Classical.not_not.mp (fun q => z (.inr q)))⟩
theorem mx_comm (x y : Int32) : mx x y = mx y x := by
  rw [← mx_le y x]
  unfold mx
  by_cases h : x < y
  · rw [if_pos h, if_neg (Int32.not_le.mpr h)]
  · rw [if_neg h, if_pos (Int32.not_lt.mp h)]
theorem bth_comm (f : Row) (a b : Nat) : bth f a b = bth f b a := by
  unfold bth
  rw [mx_comm (f (1056 + 14 * b + 2))]
  by_cases z1 : f (1056 + 14 * a + 2) < 0 <;> by_cases z2 : f (1056 + 14 * b + 2) < 0 <;> by_cases z3 : mx (f (1056 + 14 * a + 2)) (f (1056 + 14 * b + 2)) ≤ f (1056 + 14 * a + 3) <;> by_cases z4 : mx (f (1056 + 14 * a + 2)) (f (1056 + 14 * b + 2)) ≤ f (1056 + 14 * b + 3) <;> simp [z1, z2, z3, z4]
/-- the class asks the same -/
theorem bth_class {f : Row} {a b : Nat} (ha : (f (1056 + 14 * a + 2) = -1 ∧ f (1056 + 14 * a + 3) = -1) ∨ (isN (f (1056 + 14 * a + 2)) 3001 ∧ isN (f (1056 + 14 * a + 3)) 3001 ∧ f (1056 + 14 * a + 2) ≤ f (1056 + 14 * a + 3))) (hb : (f (1056 + 14 * b + 2) = -1 ∧ f (1056 + 14 * b + 3) = -1) ∨ (isN (f (1056 + 14 * b + 2)) 3001 ∧ isN (f (1056 + 14 * b + 3)) 3001 ∧ f (1056 + 14 * b + 2) ≤ f (1056 + 14 * b + 3))) {α : Type} (x y : α) : (if mx (f (1056 + 14 * a + 2)) (f (1056 + 14 * b + 2)) < 0 then x else if mx (f (1056 + 14 * a + 2)) (f (1056 + 14 * b + 2)) ≤ (if f (1056 + 14 * b + 3) < f (1056 + 14 * a + 3) then f (1056 + 14 * b + 3) else f (1056 + 14 * a + 3)) then y else x) = if bth f a b < 0 then x else y := by
  have hle : mx (f (1056 + 14 * a + 2)) (f (1056 + 14 * b + 2)) ≤ (if f (1056 + 14 * b + 3) < f (1056 + 14 * a + 3) then f (1056 + 14 * b + 3) else f (1056 + 14 * a + 3)) ↔ mx (f (1056 + 14 * a + 2)) (f (1056 + 14 * b + 2)) ≤ f (1056 + 14 * a + 3) ∧ mx (f (1056 + 14 * a + 2)) (f (1056 + 14 * b + 2)) ≤ f (1056 + 14 * b + 3) := by
    by_cases z : f (1056 + 14 * b + 3) < f (1056 + 14 * a + 3)
    · rw [if_pos z]
      exact ⟨fun q => ⟨Int32.le_trans q (Int32.le_of_lt z), q⟩, fun q => q.2⟩
    · rw [if_neg z]
      exact ⟨fun q => ⟨q, Int32.le_trans q (Int32.not_lt.mp z)⟩, fun q => q.1⟩
  have m1 : ∀ c : Nat, ((f (1056 + 14 * c + 2) = -1 ∧ f (1056 + 14 * c + 3) = -1) ∨ (isN (f (1056 + 14 * c + 2)) 3001 ∧ isN (f (1056 + 14 * c + 3)) 3001 ∧ f (1056 + 14 * c + 2) ≤ f (1056 + 14 * c + 3))) → f (1056 + 14 * c + 2) < 0 → ∀ z : Int32, ¬ z < 0 → ¬ z ≤ f (1056 + 14 * c + 3) := by
    intro c hc hlt z hz hle'
    rcases hc with q | q
    · rw [q.2] at hle'
      rw [fa_lt] at hz
      rw [fa_le] at hle'
      have e1 : (-1 : Int32).toInt = -1 := rfl
      have e0 : (0 : Int32).toInt = 0 := rfl
      omega
    · exact q.1.ge (by decide) hlt
  by_cases z1 : mx (f (1056 + 14 * a + 2)) (f (1056 + 14 * b + 2)) < 0
  · have : bth f a b = -1 := if_pos (.inl (.inl z1))
    rw [if_pos z1, this, if_pos (by decide)]
  · rw [if_neg z1]
    by_cases z2 : mx (f (1056 + 14 * a + 2)) (f (1056 + 14 * b + 2)) ≤ f (1056 + 14 * a + 3) ∧ mx (f (1056 + 14 * a + 2)) (f (1056 + 14 * b + 2)) ≤ f (1056 + 14 * b + 3)
    · have : bth f a b = mx (f (1056 + 14 * a + 2)) (f (1056 + 14 * b + 2)) := by
        refine if_neg ?_
        rintro ((q | q | q) | q)
        · exact z1 q
        · exact m1 a ha q _ z1 z2.1
        · exact m1 b hb q _ z1 z2.2
        · exact q z2
      rw [if_pos (hle.mpr z2), this, if_neg z1]
    · have : bth f a b = -1 := if_pos (.inr z2)
      rw [if_neg (fun q => z2 (hle.mp q)), this, if_pos (by decide)]
/-- the first day of a contract, a truce, and a contract for the foe -/
def trL (f : Row) (a b : Nat) (x foe : Int32) : Nat → Nat → Int32 → Int32
  | 0, _, l => l
  | d + 1, i, l => trL f a b x foe d (i + 1) (if ((f (1056 + 14 * i) = 1 ∨ f (1056 + 14 * i) = 2) ∧ f (1056 + 14 * i + 1) = x) ∧ f (1056 + 14 * i + 5) = foe then (if mx (bth f a b) (f (1056 + 14 * i + 2)) ≤ f (1056 + 14 * a + 3) ∧ mx (bth f a b) (f (1056 + 14 * i + 2)) ≤ f (1056 + 14 * b + 3) ∧ mx (bth f a b) (f (1056 + 14 * i + 2)) ≤ f (1056 + 14 * i + 3) then (if l < 0 then mx (bth f a b) (f (1056 + 14 * i + 2)) else if mx (bth f a b) (f (1056 + 14 * i + 2)) < l then mx (bth f a b) (f (1056 + 14 * i + 2)) else l) else l) else l)
theorem trL_s (f : Row) (a b : Nat) (x foe : Int32) (d i : Nat) (l : Int32) : trL f a b x foe (d + 1) i l = trL f a b x foe d (i + 1) (if ((f (1056 + 14 * i) = 1 ∨ f (1056 + 14 * i) = 2) ∧ f (1056 + 14 * i + 1) = x) ∧ f (1056 + 14 * i + 5) = foe then (if mx (bth f a b) (f (1056 + 14 * i + 2)) ≤ f (1056 + 14 * a + 3) ∧ mx (bth f a b) (f (1056 + 14 * i + 2)) ≤ f (1056 + 14 * b + 3) ∧ mx (bth f a b) (f (1056 + 14 * i + 2)) ≤ f (1056 + 14 * i + 3) then (if l < 0 then mx (bth f a b) (f (1056 + 14 * i + 2)) else if mx (bth f a b) (f (1056 + 14 * i + 2)) < l then mx (bth f a b) (f (1056 + 14 * i + 2)) else l) else l) else l) := rfl
theorem mn_le (x y z : Int32) : (x ≤ if y < z then y else z) ↔ x ≤ z ∧ x ≤ y := by
  by_cases h : y < z
  · rw [if_pos h]
    exact ⟨fun q => ⟨Int32.le_trans q (Int32.le_of_lt h), q⟩, fun q => q.2⟩
  · rw [if_neg h]
    exact ⟨fun q => ⟨q, Int32.le_trans q (Int32.not_lt.mp h)⟩, fun q => q.1⟩
theorem W_truceDay_83 {B : Nat} {M : Mem} {w : Nat} {f : Row} (h : RW B M w f) {a b : Nat} (ha : a < cn f 5) (hb : b < cn f 5) (hD : ¬ bth f a b < 0) (x : Int32) : ∀ (d i n : Nat) (l : Int32), i + d = cn f 5 → d < n → mW_truceDay_83 n w w a x (mx (f (1056 + 14 * a + 2)) (f (1056 + 14 * b + 2))) (if f (1056 + 14 * b + 3) < f (1056 + 14 * a + 3) then f (1056 + 14 * b + 3) else f (1056 + 14 * a + 3)) l (nI i) M = some (trL f a b x (f (1056 + 14 * a + 6)) d i l, M) := by
  have b5 := h.c.b5
  intro d
  induction d with
  | zero =>
    intro i n l hi hn
    obtain ⟨m, rfl⟩ : ∃ m, n = m + 1 := ⟨n - 1, by omega⟩
    show mW_truceDay_83b (mW_truceDay_83 m) (mW_truceDay_154 (mW_truceDay_83 m)) w w a x _ _ l (nI i) M = _
    unfold mW_truceDay_83b
    rw [h.c.e5, h.c.n5, if_neg (nI_nlt (by omega) (by omega))]
    rfl
  | succ d ih =>
    intro i n l hi hn
    obtain ⟨m, rfl⟩ : ∃ m, n = m + 1 := ⟨n - 1, by omega⟩
    show mW_truceDay_83b (mW_truceDay_83 m) (mW_truceDay_154 (mW_truceDay_83 m)) w w a x _ _ l (nI i) M = _
    unfold mW_truceDay_83b
    have q1 := (h.b i (by omega)).1
    have q10 : M 15 w i 0 = f (1056 + 14 * i) := q1 0 (by decide)
    have ih' := fun l => ih (i + 1) m l (by omega) (by omega)
    have eD := (bth_pos hD).1
    rw [h.c.e5, h.c.n5, if_pos (nI_lt (by omega) (by omega)), ixx_nI (by omega) (by decide), B_isContractOf_eq]
    simp only [Option.bind_some, bI_ite, mW_truceDay_154, mW_truceDay_154b]
    rw [nI_1, trL_s, eD, q10, q1 1 (by decide), q1 2 (by decide), q1 3 (by decide), q1 5 (by decide), (h.b a ha).1 6 (by decide)]
    have em : (if mx (f (1056 + 14 * a + 2)) (f (1056 + 14 * b + 2)) < f (1056 + 14 * i + 2) then f (1056 + 14 * i + 2) else mx (f (1056 + 14 * a + 2)) (f (1056 + 14 * b + 2))) = mx (mx (f (1056 + 14 * a + 2)) (f (1056 + 14 * b + 2))) (f (1056 + 14 * i + 2)) := rfl
    rw [em]
    generalize mx (mx (f (1056 + 14 * a + 2)) (f (1056 + 14 * b + 2))) (f (1056 + 14 * i + 2)) = D at *
    by_cases z1 : (f (1056 + 14 * i) = 1 ∨ f (1056 + 14 * i) = 2) ∧ f (1056 + 14 * i + 1) = x
    · by_cases z2 : f (1056 + 14 * i + 5) = f (1056 + 14 * a + 6)
      · have hc : ((f (1056 + 14 * i) = 1 ∨ f (1056 + 14 * i) = 2) ∧ f (1056 + 14 * i + 1) = x) ∧ f (1056 + 14 * i + 5) = f (1056 + 14 * a + 6) := ⟨z1, z2⟩
        rw [if_pos z1, if_pos z2, if_pos hc]
        have hd : (D ≤ if f (1056 + 14 * i + 3) < (if f (1056 + 14 * b + 3) < f (1056 + 14 * a + 3) then f (1056 + 14 * b + 3) else f (1056 + 14 * a + 3)) then f (1056 + 14 * i + 3) else (if f (1056 + 14 * b + 3) < f (1056 + 14 * a + 3) then f (1056 + 14 * b + 3) else f (1056 + 14 * a + 3))) ↔ (D ≤ f (1056 + 14 * a + 3) ∧ D ≤ f (1056 + 14 * b + 3) ∧ D ≤ f (1056 + 14 * i + 3)) := by
          rw [mn_le, mn_le]
          exact ⟨fun q => ⟨q.1.1, q.1.2, q.2⟩, fun q => ⟨⟨q.1, q.2.1⟩, q.2.2⟩⟩
        by_cases z3 : D ≤ f (1056 + 14 * a + 3) ∧ D ≤ f (1056 + 14 * b + 3) ∧ D ≤ f (1056 + 14 * i + 3)
        · rw [if_pos (hd.mpr z3), if_pos z3]
          by_cases z4 : l < 0
          · rw [if_pos z4, if_pos z4]; exact ih' _
          · rw [if_neg z4, if_neg z4]
            by_cases z5 : D < l
            · rw [if_pos z5, if_pos z5]; exact ih' _
            · rw [if_neg z5, if_neg z5]; exact ih' _
        · rw [if_neg (fun q => z3 (hd.mp q)), if_neg z3]; exact ih' _
      · have hc : ¬ (((f (1056 + 14 * i) = 1 ∨ f (1056 + 14 * i) = 2) ∧ f (1056 + 14 * i + 1) = x) ∧ f (1056 + 14 * i + 5) = f (1056 + 14 * a + 6)) := fun q => z2 q.2
        rw [if_pos z1, if_neg z2, if_neg hc]; exact ih' _
    · have hc : ¬ (((f (1056 + 14 * i) = 1 ∨ f (1056 + 14 * i) = 2) ∧ f (1056 + 14 * i + 1) = x) ∧ f (1056 + 14 * i + 5) = f (1056 + 14 * a + 6)) := fun q => z1 q.1
      rw [if_neg z1, if_neg hc]; exact ih' _
theorem K_clashes_144 {B : Nat} {M N : Mem} {w : Nat} (h : RW B M w (N 41 0 0)) {a b : Nat} (ha : a < cn (N 41 0 0) 5) (hb : b < cn (N 41 0 0) 5) (hD : ¬ bth (N 41 0 0) a b < 0) (x foe : Int32) : ∀ (d i n : Nat) (l : Int32), i + d = cn (N 41 0 0) 5 → d < n → mK_clashes_144 n (nI a) (nI b) foe x l (nI i) N = some (trL (N 41 0 0) a b x foe d i l, N) := by
  have b5 := h.c.b5
  intro d
  induction d with
  | zero =>
    intro i n l hi hn
    obtain ⟨m, rfl⟩ : ∃ m, n = m + 1 := ⟨n - 1, by omega⟩
    show mK_clashes_144b (mK_clashes_144 m) (mK_clashes_243 (mK_clashes_144 m)) (nI a) (nI b) foe x l (nI i) N = _
    unfold mK_clashes_144b
    rw [h.c.n5, if_neg (nI_nlt (by omega) (by omega))]
    rfl
  | succ d ih =>
    intro i n l hi hn
    obtain ⟨m, rfl⟩ : ∃ m, n = m + 1 := ⟨n - 1, by omega⟩
    show mK_clashes_144b (mK_clashes_144 m) (mK_clashes_243 (mK_clashes_144 m)) (nI a) (nI b) foe x l (nI i) N = _
    unfold mK_clashes_144b
    have i24 : i < 24 := by omega
    have a24 : a < 24 := by omega
    have b24 : b < 24 := by omega
    have ih' := fun l => ih (i + 1) m l (by omega) (by omega)
    obtain ⟨eD, -, -⟩ := bth_pos hD
    have hnn : ¬ mx (bth (N 41 0 0) a b) (N 41 0 0 (1056 + 14 * i + 2)) < 0 := by
      unfold mx
      split
      · rename_i q
        exact fun z => hD (Int32.lt_trans q z)
      · exact hD
    have g1 : ∀ y : Int32, bth (N 41 0 0) a b ≤ mx (bth (N 41 0 0) a b) y := by
      intro y
      unfold mx
      split
      · rename_i q; exact Int32.le_of_lt q
      · exact Int32.le_refl _
    have g2 : ∀ y z : Int32, y ≤ mx z y ∧ z ≤ mx z y := by
      intro y z
      unfold mx
      split
      · rename_i q; exact ⟨Int32.le_refl _, Int32.le_of_lt q⟩
      · rename_i q; exact ⟨Int32.not_lt.mp q, Int32.le_refl _⟩
    have hA : N 41 0 0 (1056 + 14 * a + 2) ≤ mx (bth (N 41 0 0) a b) (N 41 0 0 (1056 + 14 * i + 2)) := Int32.le_trans (by rw [eD]; exact (g2 _ _).2) (g1 _)
    have hBb : N 41 0 0 (1056 + 14 * b + 2) ≤ mx (bth (N 41 0 0) a b) (N 41 0 0 (1056 + 14 * i + 2)) := Int32.le_trans (by rw [eD]; exact (g2 _ _).1) (g1 _)
    have hI : N 41 0 0 (1056 + 14 * i + 2) ≤ mx (bth (N 41 0 0) a b) (N 41 0 0 (1056 + 14 * i + 2)) := (g2 _ _).1
    rw [h.c.n5, if_pos (nI_lt (by omega) (by omega))]
    simp only [K_isContract_eq i24, K_bond_1 i24, K_bond_5 i24, K_bond_2 i24, K_both_eq a24 b24, K_greater_eq, K_isIn_eq a24 hnn, K_isIn_eq b24 hnn, K_isIn_eq i24 hnn, Option.bind_some, bI_ite, mK_clashes_243, mK_clashes_243b]
    rw [nI_1, trL_s]
    generalize mx (bth (N 41 0 0) a b) (N 41 0 0 (1056 + 14 * i + 2)) = D at *
    by_cases z1 : N 41 0 0 (1056 + 14 * i) = 1 ∨ N 41 0 0 (1056 + 14 * i) = 2
    · by_cases z2 : N 41 0 0 (1056 + 14 * i + 1) = x
      · by_cases z3 : N 41 0 0 (1056 + 14 * i + 5) = foe
        · have hc : ((N 41 0 0 (1056 + 14 * i) = 1 ∨ N 41 0 0 (1056 + 14 * i) = 2) ∧ N 41 0 0 (1056 + 14 * i + 1) = x) ∧ N 41 0 0 (1056 + 14 * i + 5) = foe := ⟨⟨z1, z2⟩, z3⟩
          rw [if_pos z1, if_pos z2, if_pos z3, if_pos hc]
          by_cases y1 : D ≤ N 41 0 0 (1056 + 14 * a + 3)
          · have y1' : N 41 0 0 (1056 + 14 * a + 2) ≤ D ∧ D ≤ N 41 0 0 (1056 + 14 * a + 3) := ⟨hA, y1⟩
            rw [if_pos y1']
            by_cases y2 : D ≤ N 41 0 0 (1056 + 14 * b + 3)
            · have y2' : N 41 0 0 (1056 + 14 * b + 2) ≤ D ∧ D ≤ N 41 0 0 (1056 + 14 * b + 3) := ⟨hBb, y2⟩
              rw [if_pos y2']
              by_cases y3 : D ≤ N 41 0 0 (1056 + 14 * i + 3)
              · have y3' : N 41 0 0 (1056 + 14 * i + 2) ≤ D ∧ D ≤ N 41 0 0 (1056 + 14 * i + 3) := ⟨hI, y3⟩
                have y4 : D ≤ N 41 0 0 (1056 + 14 * a + 3) ∧ D ≤ N 41 0 0 (1056 + 14 * b + 3) ∧ D ≤ N 41 0 0 (1056 + 14 * i + 3) := ⟨y1, y2, y3⟩
                rw [if_pos y3', if_pos y4]
                by_cases z4 : l < 0
                · rw [if_pos z4, if_pos z4]; exact ih' _
                · rw [if_neg z4, if_neg z4]
                  by_cases z5 : D < l
                  · rw [if_pos z5, if_pos z5]; exact ih' _
                  · rw [if_neg z5, if_neg z5]; exact ih' _
              · rw [if_neg (fun q => y3 q.2), if_neg (fun q => y3 q.2.2)]; exact ih' _
            · rw [if_neg (fun q => y2 q.2), if_neg (fun q => y2 q.2.1)]; exact ih' _
          · rw [if_neg (fun q => y1 q.2), if_neg (fun q => y1 q.1)]; exact ih' _
        · rw [if_pos z1, if_pos z2, if_neg z3, if_neg (fun q => z3 q.2)]; exact ih' _
      · rw [if_pos z1, if_neg z2, if_neg (fun q => z2 q.1.2)]; exact ih' _
    · rw [if_neg z1, if_neg (fun q => z1 q.1.1)]; exact ih' _
/-- a contract against a foe, and another bond -/
def clO (f : Row) (a b : Nat) : Int32 := if f (1056 + 14 * a + 6) < 0 then -1 else if f (1056 + 14 * b) = 4 then (if f (1056 + 14 * b + 1) = f (1056 + 14 * a + 1) then trL f a b (f (1056 + 14 * b + 7)) (f (1056 + 14 * a + 6)) (cn f 5) 0 (-1) else if f (1056 + 14 * b + 7) = f (1056 + 14 * a + 1) then trL f a b (f (1056 + 14 * b + 1)) (f (1056 + 14 * a + 6)) (cn f 5) 0 (-1) else -1) else if f (1056 + 14 * b) = 6 then (if f (1056 + 14 * b + 1) = f (1056 + 14 * a + 1) then (if f (1056 + 14 * b + 5) = f (1056 + 14 * a + 6) then bth f a b else -1) else -1) else -1
theorem W_clashOf_eq {B : Nat} {M : Mem} {w : Nat} {f : Row} (h : RW B M w f) {a b : Nat} (ha : a < cn f 5) (hb : b < cn f 5) (hD : ¬ bth f a b < 0) : mW_clashOf w w a w b M = some (clO f a b, M) := by
  have b5 := h.c.b5
  have q := (h.b a ha).1
  have r := (h.b b hb).1
  have r0 : M 15 w b 0 = f (1056 + 14 * b) := r 0 (by decide)
  have t := fun x => W_truceDay_83 h ha hb hD x (cn f 5) 0 fuel (-1) (by omega) (by unfold fuel; omega)
  unfold mW_clashOf mW_truceDay mW_truceDayb mW_truceDay_34 mW_truceDay_34b clO
  simp only [bindE]
  rw [q 6 (by decide), r0, r 1 (by decide), q 1 (by decide), r 5 (by decide), q 2 (by decide), r 2 (by decide), r 7 (by decide), q 3 (by decide), r 3 (by decide), (bth_pos hD).1]
  have t' : ∀ x, mW_truceDay_83 fuel w w a x (if f (1056 + 14 * a + 2) < f (1056 + 14 * b + 2) then f (1056 + 14 * b + 2) else f (1056 + 14 * a + 2)) (if f (1056 + 14 * b + 3) < f (1056 + 14 * a + 3) then f (1056 + 14 * b + 3) else f (1056 + 14 * a + 3)) (-1) 0 M = some (trL f a b x (f (1056 + 14 * a + 6)) (cn f 5) 0 (-1), M) := t
  simp only [t', if_true, show ((1 : Int32) = 0) = False from eq_false (by decide), if_false]
  split
  · rfl
  · split
    · split
      · rfl
      · split <;> rfl
    · split
      · split
        · split <;> rfl
        · rfl
      · rfl
theorem K_clashes_eq {B : Nat} {M N : Mem} {w : Nat} (h : RW B M w (N 41 0 0)) {a b : Nat} (ha : a < cn (N 41 0 0) 5) (hb : b < cn (N 41 0 0) 5) : mK_clashes (nI a) (nI b) N = some (if bth (N 41 0 0) a b < 0 then -1 else clO (N 41 0 0) a b, N) := by
  have b5 := h.c.b5
  have a24 : a < 24 := by omega
  have b24 : b < 24 := by omega
  unfold mK_clashes mK_clashesb clO
  simp only [K_bond_6 a24, K_bond_1 a24, K_both_eq a24 b24, K_bond_0 b24, K_bond_1 b24, K_bond_5 b24, K_bond_7 b24, Option.bind_some]
  by_cases z0 : N 41 0 0 (1056 + 14 * a + 6) < 0
  · rw [if_pos z0, if_pos z0, ite_self]
  rw [if_neg z0, if_neg z0]
  by_cases hD : bth (N 41 0 0) a b < 0
  · rw [if_pos hD, if_pos hD]
  rw [if_neg hD, if_neg hD]
  have t := fun x => K_clashes_144 h ha hb hD x (N 41 0 0 (1056 + 14 * a + 6)) (cn (N 41 0 0) 5) 0 fuel (-1) (by omega) (by unfold fuel; omega)
  have t' : ∀ x, mK_clashes_144 fuel (nI a) (nI b) (N 41 0 0 (1056 + 14 * a + 6)) x (-1) 0 N = some (trL (N 41 0 0) a b x (N 41 0 0 (1056 + 14 * a + 6)) (cn (N 41 0 0) 5) 0 (-1), N) := t
  simp only [t']
  by_cases z4 : N 41 0 0 (1056 + 14 * b) = 4
  · have z6 : ¬ N 41 0 0 (1056 + 14 * b) = 6 := by rw [z4]; decide
    rw [if_neg z6, if_pos z4, if_pos z4]
    by_cases z7 : N 41 0 0 (1056 + 14 * b + 1) = N 41 0 0 (1056 + 14 * a + 1)
    · simp only [if_pos z7]
    · simp only [if_neg z7]
      split <;> rfl
  · rw [if_neg z4, if_neg z4]
    split
    · split
      · split <;> rfl
      · rfl
    · rfl
/-- the day of the clash of two bonds -/
def clD (f : Row) (a b : Nat) : Int32 := if bth f a b < 0 then -1 else if (f (1056 + 14 * a) = 1 ∨ f (1056 + 14 * a) = 2) then (if (f (1056 + 14 * b) = 1 ∨ f (1056 + 14 * b) = 2) then (if f (1056 + 14 * a + 1) = f (1056 + 14 * b + 1) then (if f (1056 + 14 * a + 5) = f (1056 + 14 * b + 5) then -1 else bth f a b) else -1) else clO f a b) else if (f (1056 + 14 * b) = 1 ∨ f (1056 + 14 * b) = 2) then clO f b a else -1
theorem W_clashDay_eq {B : Nat} {M : Mem} {w : Nat} {f : Row} (h : RW B M w f) {a b : Nat} (ha : a < cn f 5) (hb : b < cn f 5) : mW_clashDay w w a w b M = some (clD f a b, M) := by
  obtain ⟨q, -, -, q4, -⟩ := h.b a ha
  obtain ⟨r, -, -, r4, -⟩ := h.b b hb
  have q0 : M 15 w a 0 = f (1056 + 14 * a) := q 0 (by decide)
  have r0 : M 15 w b 0 = f (1056 + 14 * b) := r 0 (by decide)
  unfold mW_clashDay
  simp only [bindE, B_isContract_eq, Option.bind_some, bI_ite]
  rw [q0, r0, q 1 (by decide), q 2 (by decide), q 3 (by decide), q 5 (by decide), r 1 (by decide), r 2 (by decide), r 3 (by decide), r 5 (by decide)]
  show (if mx (f (1056 + 14 * a + 2)) (f (1056 + 14 * b + 2)) < 0 then _ else if mx (f (1056 + 14 * a + 2)) (f (1056 + 14 * b + 2)) ≤ _ then _ else _) = _
  rw [bth_class q4 r4]
  unfold clD
  by_cases hD : bth f a b < 0
  · rw [if_pos hD, if_pos hD]
  rw [if_neg hD, if_neg hD, W_clashOf_eq h ha hb hD, W_clashOf_eq h hb ha (by rw [bth_comm]; exact hD)]
  by_cases z1 : f (1056 + 14 * a) = 1 ∨ f (1056 + 14 * a) = 2
  · simp only [if_pos z1]
    by_cases z2 : f (1056 + 14 * b) = 1 ∨ f (1056 + 14 * b) = 2
    · simp only [if_pos z2]
      rw [(bth_pos hD).1]
      split
      · split <;> rfl
      · rfl
    · simp only [if_neg z2]
  · simp only [if_neg z1]
    split <;> rfl
theorem K_clashOf_eq {B : Nat} {M N : Mem} {w : Nat} (h : RW B M w (N 41 0 0)) {a b : Nat} (ha : a < cn (N 41 0 0) 5) (hb : b < cn (N 41 0 0) 5) : mK_clashOf (nI a) (nI b) N = some (clD (N 41 0 0) a b, N) := by
  have b5 := h.c.b5
  have a24 : a < 24 := by omega
  have b24 : b < 24 := by omega
  unfold mK_clashOf clD
  simp only [bindE, K_isContract_eq a24, K_isContract_eq b24, K_bond_1 a24, K_bond_1 b24, K_bond_5 a24, K_bond_5 b24, K_both_eq a24 b24, K_clashes_eq h ha hb, K_clashes_eq h hb ha, Option.bind_some, bI_ite, bth_comm (N 41 0 0) b a]
  by_cases z1 : N 41 0 0 (1056 + 14 * a) = 1 ∨ N 41 0 0 (1056 + 14 * a) = 2
  · simp only [if_pos z1]
    by_cases z2 : N 41 0 0 (1056 + 14 * b) = 1 ∨ N 41 0 0 (1056 + 14 * b) = 2
    · simp only [if_pos z2]
      by_cases hD : bth (N 41 0 0) a b < 0
      · rw [if_pos hD, bth_neg hD]
        split
        · split <;> rfl
        · rfl
      · rw [if_neg hD]
        split
        · split <;> rfl
        · rfl
    · simp only [if_neg z2]
  · simp only [if_neg z1]
    by_cases z2 : N 41 0 0 (1056 + 14 * b) = 1 ∨ N 41 0 0 (1056 + 14 * b) = 2
    · simp only [if_pos z2]
    · simp only [if_neg z2, ite_self]
