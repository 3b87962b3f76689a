/-! ===== wintering: masks of towns, the cheapest quarters ===== -/
def pc8 (m : Nat) : Nat := fb_ct (fun t => m.testBit t) 8
theorem J_bit (m : Nat) (hm : m < 256) (M : Mem) : mJ_bitCount (nI m) M = some (nI (pc8 m), M) := by
  have e : ∀ j : Fin 256, (let t1 : Int32 := nI j.val - ((((nI j.val).toUInt32 >>> ((1 : Int32).toUInt32 &&& Int32.toUInt32 31)).toInt32) &&& 1431655765)
    let t2 : Int32 := (t1 &&& 858993459) + (((t1.toUInt32 >>> ((2 : Int32).toUInt32 &&& Int32.toUInt32 31)).toInt32) &&& 858993459)
    let t3 : Int32 := (t2 + ((t2.toUInt32 >>> ((4 : Int32).toUInt32 &&& Int32.toUInt32 31)).toInt32)) &&& 252645135
    let t4 : Int32 := t3 + ((t3.toUInt32 >>> ((8 : Int32).toUInt32 &&& Int32.toUInt32 31)).toInt32)
    let t5 : Int32 := t4 + ((t4.toUInt32 >>> ((16 : Int32).toUInt32 &&& Int32.toUInt32 31)).toInt32)
    t5 &&& 63) = nI (pc8 j.val) := by decide +kernel
  have z := e ⟨m, hm⟩
  unfold mJ_bitCount
  exact congrArg (fun v => some (v, M)) z
theorem bit_is (m t : Nat) (hm : m < 256) (ht : t < 8) : (nI m >>> (nI t &&& 31)) &&& 1 = if m.testBit t then 1 else 0 := by
  have e : ∀ j : Fin 256, ∀ k : Fin 8, (nI j.val >>> (nI k.val &&& 31)) &&& 1 = if j.val.testBit k.val then 1 else 0 := by decide +kernel
  exact e ⟨m, hm⟩ ⟨t, ht⟩
theorem bit_or (m t : Nat) (hm : m < 256) (ht : t < 8) : nI m ||| (1 <<< (nI t &&& 31)) = nI (m ||| 2 ^ t) := by
  have e : ∀ j : Fin 256, ∀ k : Fin 8, nI j.val ||| (1 <<< (nI k.val &&& 31)) = nI (j.val ||| 2 ^ k.val) := by decide +kernel
  exact e ⟨m, hm⟩ ⟨t, ht⟩
theorem or_lt (m t : Nat) (hm : m < 256) (ht : t < 8) : m ||| 2 ^ t < 256 := by
  have e : ∀ j : Fin 256, ∀ k : Fin 8, j.val ||| 2 ^ k.val < 256 := by decide +kernel
  exact e ⟨m, hm⟩ ⟨t, ht⟩
theorem pc8_or (m t : Nat) (hm : m < 256) (ht : t < 8) (h : m.testBit t = false) : pc8 (m ||| 2 ^ t) = pc8 m + 1 ∧ m < (m ||| 2 ^ t) := by
  have e : ∀ j : Fin 256, ∀ k : Fin 8, j.val.testBit k.val = false → pc8 (j.val ||| 2 ^ k.val) = pc8 j.val + 1 ∧ j.val < (j.val ||| 2 ^ k.val) := by decide +kernel
  exact e ⟨m, hm⟩ ⟨t, ht⟩ h
/-- the least and the first that has it, from so much on -/
def mnG (g : Nat → Nat) : Nat → Nat
  | 0 => 1000000000
  | n + 1 => if g n < mnG g n then g n else mnG g n
def amG (g : Nat → Nat) : Nat → Nat
  | 0 => 0
  | n + 1 => if g n < mnG g n then n else amG g n
theorem mnG_s (g : Nat → Nat) (n : Nat) : mnG g (n + 1) = if g n < mnG g n then g n else mnG g n := rfl
theorem amG_s (g : Nat → Nat) (n : Nat) : amG g (n + 1) = if g n < mnG g n then n else amG g n := rfl
theorem amG_v (g : Nat → Nat) : ∀ n, mnG g n < 1000000000 → amG g n < n ∧ g (amG g n) = mnG g n
  | 0, h => absurd h (Nat.lt_irrefl _)
  | n + 1, h => by
    rw [mnG_s] at h
    rw [amG_s, mnG_s]
    by_cases z : g n < mnG g n
    · rw [if_pos z, if_pos z]
      exact ⟨by omega, rfl⟩
    · rw [if_neg z] at h
      rw [if_neg z, if_neg z]
      have := amG_v g n h
      exact ⟨by omega, this.2⟩
theorem mnG_le (g : Nat → Nat) : ∀ n k, k < n → mnG g n ≤ g k
  | 0, k, h => absurd h (Nat.not_lt_zero _)
  | n + 1, k, h => by
    rw [mnG_s]
    by_cases e : k = n
    · subst e
      split <;> omega
    · have := mnG_le g n k (by omega)
      split <;> omega
/-- what the quarters cost that are yet to be chosen: r companies left, the towns taken -/
def gW (cst : Nat → Nat → Nat) (o : Nat → Nat) (c m t : Nat) : Nat := if m.testBit t then 1000000000 else cst c t + o (m ||| 2 ^ t)
def oW (cst : Nat → Nat → Nat) (C T : Nat) : Nat → Nat → Nat
  | 0, _ => 0
  | r + 1, m => mnG (gW cst (oW cst C T r) (C - (r + 1)) m) T
