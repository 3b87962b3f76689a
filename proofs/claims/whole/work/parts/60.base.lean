/-! ===== plain facts on numbers, places, small functions ===== -/
abbrev Row : Type := Nat → Int32
def bI (p : Prop) [Decidable p] : Int32 := if p then 1 else 0
theorem bI_0 {p : Prop} [Decidable p] : (bI p = 0) ↔ ¬ p := by
  unfold bI; split <;> simp [*]
theorem bI_01 {p : Prop} [Decidable p] : (bI p = 0 ∨ bI p = 1) := by
  unfold bI; split <;> simp
theorem bI_ite {p : Prop} [Decidable p] {α : Type} (a b : α) : (if bI p = 0 then a else b) = if p then b else a := by
  by_cases h : p
  · rw [if_pos h, if_neg (fun q => (bI_0.mp q) h)]
  · rw [if_neg h, if_pos (bI_0.mpr h)]
theorem bI_ret {p : Prop} [Decidable p] {α : Type} (a b : α) : (if bI p = 0 ∨ bI p = 1 then a else b) = a := if_pos bI_01
theorem bI_cong {p q : Prop} [Decidable p] [Decidable q] (h : p ↔ q) : bI p = bI q := by
  unfold bI; by_cases hp : p
  · rw [if_pos hp, if_pos (h.mp hp)]
  · rw [if_neg hp, if_neg (fun z => hp (h.mpr z))]
theorem lit (n : Nat) : (OfNat.ofNat n : Int32) = nI n := rfl
theorem ixx_nI {α : Type} {n N : Nat} {F : Nat → Option α} (h : n < N) (hN : N < 2 ^ 31) : ixx (nI n) N F = F n := by
  unfold ixx
  rw [if_neg (nI_in h hN), nI_clamp (by omega)]
theorem ixx_e {α : Type} {x : Int32} {n N : Nat} {F : Nat → Option α} (hx : x = nI n) (h : n < N) (hN : N < 2 ^ 31) : ixx x N F = F n := by
  rw [hx, ixx_nI h hN]
theorem nI_inj {a b : Nat} (ha : a < 2 ^ 31) (hb : b < 2 ^ 31) : (nI a = nI b) = (a = b) := propext (nI_eq ha hb)
theorem bindE {α β : Type} (x : Option (α × β)) : (x.bind fun q => some (q.1, q.2)) = x := by
  cases x <;> rfl
theorem bindM (x : Option Mem) : (x.bind fun q => some q) = x := by
  cases x <;> rfl
/-- a number of one of n things -/
def isN (x : Int32) (n : Nat) : Prop := ∃ j : Nat, j < n ∧ x = nI j
theorem isN.mono {x : Int32} {n m : Nat} (h : isN x n) (hm : n ≤ m) : isN x m := by
  obtain ⟨j, h1, h2⟩ := h
  exact ⟨j, by omega, h2⟩
theorem isN.ge {x : Int32} {n : Nat} (h : isN x n) (hn : n ≤ 2 ^ 31) : ¬ x < 0 := by
  obtain ⟨j, h1, rfl⟩ := h
  exact nI_pos (by omega)
/-- the numbers of what there is -/
theorem in_cnt {t : Int32} {T : Nat} (hT : T < 2 ^ 30) : (0 ≤ t ∧ t ≤ nI T - 1) ↔ isN t T := by
  constructor
  · rintro ⟨h1, h2⟩
    obtain ⟨j, hj, rfl⟩ := nI_of (Int32.not_lt.mpr h1)
    refine ⟨j, ?_, rfl⟩
    rcases Nat.eq_zero_or_pos T with h0 | h0
    · subst h0
      rw [Int32.le_iff_toInt_le, nI_toInt hj] at h2
      have : (nI 0 - 1).toInt = -1 := by decide
      omega
    · obtain ⟨T', rfl⟩ : ∃ T', T = T' + 1 := ⟨T - 1, by omega⟩
      rw [nI_pred, nI_leI hj (by omega)] at h2
      omega
  · rintro ⟨j, hj, rfl⟩
    refine ⟨nI_pos' (by omega), ?_⟩
    obtain ⟨T', rfl⟩ : ∃ T', T = T' + 1 := ⟨T - 1, by omega⟩
    rw [nI_pred]
    exact nI_le (by omega) (by omega)
/-- a number between two -/
theorem in_lit {x : Int32} {a b : Nat} (hb : b < 2 ^ 31) (h : nI a ≤ x ∧ x ≤ nI b) (ha : a < 2 ^ 31) : ∃ j, a ≤ j ∧ j ≤ b ∧ x = nI j := by
  have h0 : 0 ≤ x := by
    have := h.1
    rw [fa_le, nI_toInt ha] at this
    rw [fa_le]
    have e : (0 : Int32).toInt = 0 := rfl
    omega
  obtain ⟨j, hj, rfl⟩ := nI_of (Int32.not_lt.mpr h0)
  exact ⟨j, (nI_leI ha hj).mp h.1, (nI_leI hj hb).mp h.2, rfl⟩
theorem F_within_eq (v lo hi : Int32) (M : Mem) : mF_within v lo hi M = some (bI (lo ≤ v ∧ v ≤ hi), M) := by
  unfold mF_within bI
  by_cases h1 : lo ≤ v
  · by_cases h2 : v ≤ hi
    · simp [h1, h2]
    · simp [h1, h2]
  · simp [h1]
theorem K_in_eq (v lo hi : Int32) (M : Mem) : mK_in v lo hi M = some (bI (lo ≤ v ∧ v ≤ hi), M) := by
  unfold mK_in bI
  by_cases h1 : v < lo
  · have : ¬ lo ≤ v := Int32.not_le.mpr h1
    simp [h1, this]
  · have h1' : lo ≤ v := Int32.not_lt.mp h1
    by_cases h2 : v ≤ hi
    · simp [h1, h1', h2]
    · simp [h1, h2]
theorem F_finding_eq {k : Nat} (hk : k < 6) (M : Mem) : mF_finding (nI k) M = some (-1000000 - nI k, up M 26 0 0 k (M 26 0 0 k + 1)) := by
  unfold mF_finding
  rw [ixx_nI hk (by decide), ixx_nI hk (by decide)]
theorem K_finds_eq {k : Nat} (hk : k < 6) (M : Mem) : mK_finds (nI k) M = some (-1000000 - nI k, up M 44 0 0 k (M 44 0 0 k + 1)) := by
  unfold mK_finds
  rw [ixx_nI hk (by decide), ixx_nI hk (by decide)]
/-! memories -/
theorem up_ne {M : Mem} {r w i k r' w' i' k' : Nat} {v : Int32} (h : ¬ (r' = r ∧ w' = w ∧ i' = i ∧ k' = k)) : up M r w i k v r' w' i' k' = M r' w' i' k' := if_neg h
theorem up_eq {M : Mem} {r w i k : Nat} {v : Int32} : up M r w i k v r w i k = v := if_pos ⟨rfl, rfl, rfl, rfl⟩
theorem upR {M : Mem} {r w i k r' w' i' k' : Nat} {v : Int32} (h : r' ≠ r) : up M r w i k v r' w' i' k' = M r' w' i' k' := if_neg fun q => h q.1
/-- a row of the memory, one place changed -/
theorem up_row {M : Mem} {r w i k : Nat} {v : Int32} : up M r w i k v r w i = upd (M r w i) k v := by
  funext j
  by_cases h : j = k
  · subst h
    simp [up, upd]
  · simp [up, upd, h]
theorem upRr {M : Mem} {r w i k r' w' i' : Nat} {v : Int32} (h : r' ≠ r) : up M r w i k v r' w' i' = M r' w' i' := by
  funext j
  exact upR h
/-! what both sides do -/
def Sim (P : Mem → Mem → Prop) (a b : Option (Int32 × Mem)) : Prop := ∃ r M' N', a = some (r, M') ∧ b = some (r, N') ∧ P M' N'
theorem Sim.ite {P : Mem → Mem → Prop} {p : Prop} [Decidable p] {a a' b b' : Option (Int32 × Mem)} (h1 : p → Sim P a b) (h2 : ¬ p → Sim P a' b') : Sim P (if p then a else a') (if p then b else b') := by
  by_cases h : p
  · rw [if_pos h, if_pos h]; exact h1 h
  · rw [if_neg h, if_neg h]; exact h2 h
theorem Sim.ret {P : Mem → Mem → Prop} {r : Int32} {M N : Mem} (h : P M N) : Sim P (some (r, M)) (some (r, N)) := ⟨r, M, N, rfl, rfl, h⟩
