/-! ===== hiring: the cheapest plan, and the class's table ===== -/
def mnF (g : Nat → Nat) : Nat → Nat
  | 0 => g 0
  | n + 1 => if g (n + 1) < mnF g n then g (n + 1) else mnF g n
def amF (g : Nat → Nat) : Nat → Nat
  | 0 => 0
  | n + 1 => if g (n + 1) < mnF g n then n + 1 else amF g n
theorem mnF_s (g : Nat → Nat) (n : Nat) : mnF g (n + 1) = if g (n + 1) < mnF g n then g (n + 1) else mnF g n := rfl
theorem amF_s (g : Nat → Nat) (n : Nat) : amF g (n + 1) = if g (n + 1) < mnF g n then n + 1 else amF g n := rfl
theorem amF_le (g : Nat → Nat) : ∀ n, amF g n ≤ n
  | 0 => Nat.le_refl _
  | n + 1 => by
    have := amF_le g n
    rw [amF_s]
    split <;> omega
theorem amF_v (g : Nat → Nat) : ∀ n, g (amF g n) = mnF g n
  | 0 => rfl
  | n + 1 => by
    rw [amF_s, mnF_s]
    split
    · rfl
    · exact amF_v g n
theorem mnF_0 (g : Nat → Nat) : ∀ n, mnF g n ≤ g 0
  | 0 => Nat.le_refl _
  | n + 1 => by
    have := mnF_0 g n
    rw [mnF_s]
    split <;> omega
theorem mnF_le (g : Nat → Nat) : ∀ n k, k ≤ n → mnF g n ≤ g k
  | 0, k, h => by
    obtain rfl : k = 0 := by omega
    exact Nat.le_refl _
  | n + 1, k, h => by
    rw [mnF_s]
    by_cases e : k = n + 1
    · subst e
      split <;> omega
    · have := mnF_le g n k (by omega)
      split <;> omega
/-- what a month costs: who was hired before (0: nobody), who is now -/
def kH (me q : Nat → Nat) (s p c : Nat) : Nat := me c * q (3 * s + 2) + (if c = 0 ∨ c = p then 0 else 10) + (if me c < q (3 * s) then q (3 * s + 1) else 0)
def oH (me q : Nat → Nat) (C : Nat) : Nat → Nat → Nat → Nat
  | 0, _, _ => 0
  | r + 1, s, p => mnF (fun c => kH me q s p c + oH me q C r (s + 1) c) C
theorem oH_s (me q : Nat → Nat) (C r s p : Nat) : oH me q C (r + 1) s p = mnF (fun c => kH me q s p c + oH me q C r (s + 1) c) C := rfl
def chH (me q : Nat → Nat) (C r s p : Nat) : Nat := amF (fun c => kH me q s p c + oH me q C r (s + 1) c) C
theorem kH_le {me q : Nat → Nat} (hm : ∀ c, me c ≤ 40) (hq : ∀ k, q k ≤ 9999) (s p c : Nat) : kH me q s p c ≤ 500000 := by
  have h1 : me c * q (3 * s + 2) ≤ 40 * 9999 := Nat.mul_le_mul (hm c) (hq _)
  have h2 := hq (3 * s + 1)
  unfold kH
  split <;> split <;> omega
theorem oH_le {me q : Nat → Nat} (hm : ∀ c, me c ≤ 40) (hq : ∀ k, q k ≤ 9999) (C : Nat) : ∀ r s p, oH me q C r s p ≤ 500000 * r
  | 0, _, _ => Nat.zero_le _
  | r + 1, s, p => by
    rw [oH_s]
    have h1 : mnF (fun c => kH me q s p c + oH me q C r (s + 1) c) C ≤ kH me q s p 0 + oH me q C r (s + 1) 0 := mnF_0 (fun c => kH me q s p c + oH me q C r (s + 1) c) C
    have h2 := kH_le hm hq s p 0
    have h3 := oH_le hm hq C r (s + 1) 0
    omega
/-- a company's number, nobody is -1 -/
def vC (p : Nat) : Int32 := nI p - 1
theorem vC_0 : vC 0 = -1 := rfl
theorem vC_s (p : Nat) : vC (p + 1) = nI p := nI_pred p
theorem vC_1 (p : Nat) : vC p + 1 = vC (p + 1) := by
  rw [vC_s]
  unfold vC
  rw [Int32.sub_add_cancel]
theorem vC_eq {a b : Nat} (ha : a < 100) (hb : b < 100) : vC a = vC b ↔ a = b := by
  constructor
  · intro h
    have h2 : vC a + 1 = vC b + 1 := by rw [h]
    rw [vC_1, vC_1, vC_s, vC_s] at h2
    exact (nI_eq (by omega) (by omega)).mp h2
  · rintro rfl
    rfl
/-- what the class's table is made of -/
def TH (M : Mem) (w si C S : Nat) (me q : Nat → Nat) : Prop := (∀ c, c < C → M 6 w c 6 = nI (me (c + 1))) ∧ (me 0 = 0 ∧ S ≤ 5) ∧ M 1 w 0 6 = nI C ∧ C ≤ 5 ∧ (∀ k, k < 3 * S → M 20 0 si k = nI (q k)) ∧ (∀ c, me c ≤ 40) ∧ ∀ k, q k ≤ 9999
theorem TH.cong {M M' : Mem} {w si C S : Nat} {me q : Nat → Nat} (h : TH M w si C S me q) (g : ∀ r w' i k, r ≠ 25 → M' r w' i k = M r w' i k) : TH M' w si C S me q := by
  obtain ⟨h1, h2, h3, h4, h5, h6, h7⟩ := h
  exact ⟨fun c hc => by rw [g _ _ _ _ (by decide)]; exact h1 c hc, h2, by rw [g _ _ _ _ (by decide)]; exact h3, h4, fun k hk => by rw [g _ _ _ _ (by decide)]; exact h5 k hk, h6, h7⟩
theorem P_hirePlace_eq (s p : Nat) (M : Mem) : mP_hirePlace (nI s) (vC p) M = some (nI (s * 6 + p), M) := by
  unfold mP_hirePlace
  have : nI s * 6 + vC p + 1 = nI (s * 6 + p) := by
    rw [Int32.add_assoc, vC_1, vC_s, show (6 : Int32) = nI 6 from rfl, pk_mul, nI_add]
  rw [this]
theorem P_hireNext_48 {M : Mem} {w si C S : Nat} {me q : Nat → Nat} (h : TH M w si C S me q) {s c v x o : Nat} (hs : s < S) (hc : c ≤ 5) (ho : M 25 0 0 ((s + 1) * 6 + c) = nI o) : mP_hireNext_48 si (nI s) (vC c) (nI v) (nI x) M = some (nI (x + (if v < q (3 * s) then q (3 * s + 1) else 0) + o), M) ∨ ¬ (v ≤ 40) := by
  by_cases hv : v ≤ 40
  · left
    obtain ⟨h1, h2, h3, h4, h5, h6, h7⟩ := h
    have q0 := h7 (3 * s)
    unfold mP_hireNext_48 mP_hireNext_48b
    have i0 : (3 : Int32) * nI s = nI (3 * s) := pk_mul 3 s
    have i1 : nI (3 * s) + 1 = nI (3 * s + 1) := nI_1 (3 * s)
    rw [i0, i1, nI_1, ixx_nI (by omega) (by decide), h5 _ (by omega), ixx_nI (by omega) (by decide), h5 _ (by omega), P_hirePlace_eq]
    simp only [Option.bind_some, ixx_nI (show (s + 1) * 6 + c < 36 by omega) (show 36 < 2 ^ 31 by decide), ho, nI_add]
    by_cases z : v < q (3 * s)
    · rw [if_pos (nI_lt z (by omega)), if_pos z]
    · rw [if_neg (nI_nlt (by omega) (by omega)), if_neg z, Nat.add_zero]
  · exact .inr hv
theorem P_hireNext_eq {M : Mem} {w si C S : Nat} {me q : Nat → Nat} (h : TH M w si C S me q) {s p c o : Nat} (hs : s < S) (hc : c ≤ C) (hp : p ≤ C) (ho : M 25 0 0 ((s + 1) * 6 + c) = nI o) : mP_hireNext w si (nI s) (vC p) (vC c) M = some (nI (kH me q s p c + o), M) := by
  obtain ⟨h1, h2, h3, h4, h5, h6, h7⟩ := h
  have i2 : (3 : Int32) * nI s + 2 = nI (3 * s + 2) := by rw [show (3 : Int32) * nI s = nI (3 * s) from pk_mul 3 s, show (2 : Int32) = nI 2 from rfl, nI_add]
  have st := fun v x (hv : v ≤ 40) => (P_hireNext_48 (v := v) (x := x) ⟨h1, h2, h3, h4, h5, h6, h7⟩ hs (show c ≤ 5 by omega) ho).resolve_right (fun q => q hv)
  unfold mP_hireNext mP_hireNextb kH
  rw [i2]
  by_cases hc0 : c = 0
  · subst hc0
    rw [vC_0, if_pos (by decide), ixx_nI (by omega) (by decide), if_pos (by decide), h5 _ (by omega), Int32.zero_mul, h2.1]
    have := st 0 0 (by omega)
    rw [vC_0] at this
    rw [if_pos (c := (0 : Nat) = 0 ∨ 0 = p) (.inl rfl), Nat.zero_mul]
    exact this
  · obtain ⟨c, rfl⟩ : ∃ j, c = j + 1 := ⟨c - 1, by omega⟩
    have c5 : c < 5 := by omega
    rw [vC_s, if_neg (nI_pos (by omega)), ixx_nI c5 (by decide), ixx_nI (by omega) (by decide), if_neg (nI_pos (by omega)), h1 c (by omega), h5 _ (by omega), pk_mul]
    have hm := h6 (c + 1)
    rw [vC_s] at st
    have e : (nI c = vC p) ↔ (c + 1 = p) := by rw [← vC_s, vC_eq (by omega) (by omega)]
    by_cases z : c + 1 = p
    · rw [if_pos (e.mpr z), if_pos (c := c + 1 = 0 ∨ c + 1 = p) (.inr z), st _ _ hm, Nat.add_zero (me (c + 1) * q (3 * s + 2))]
    · rw [if_neg (fun q => z (e.mp q)), if_neg (c := c + 1 = 0 ∨ c + 1 = p) (by omega)]
      have e10 : nI (me (c + 1) * q (3 * s + 2)) + 10 = nI (me (c + 1) * q (3 * s + 2) + 10) := nI_add _ 10
      rw [e10, st _ _ hm]
