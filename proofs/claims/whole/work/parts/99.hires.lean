/-! ===== hiring: the reference's search ===== -/
def ptH (me q : Nat → Nat) (C : Nat) : Nat → Nat → Nat → Nat → Nat
  | 0, _, _, _ => 0
  | r + 1, s, p, 0 => chH me q C r s p
  | r + 1, s, p, k + 1 => ptH me q C r (s + 1) (chH me q C r s p) k
def UH (N : Mem) (si C S : Nat) (me q : Nat → Nat) : Prop := (∀ c, c < C → N 59 0 0 c = nI (me (c + 1))) ∧ me 0 = 0 ∧ N 41 0 0 2 = nI C ∧ C ≤ 5 ∧ (∀ k, k < 3 * S → N 66 0 0 (24 * si + k) = nI (q k)) ∧ (∀ c, me c ≤ 40) ∧ (∀ k, q k ≤ 9999) ∧ N 40 0 0 19 = nI si ∧ si < 4 ∧ S ≤ 5 ∧ N 65 0 0 si / 3 = nI S
/-- only the search's own places change -/
def FH (s : Nat) (N N' : Mem) : Prop := ∀ r w' i k, ¬ ((r = 40 ∧ k = 20) ∨ (r = 57 ∧ s ≤ k) ∨ r = 58) → N' r w' i k = N r w' i k
theorem FH.tr {s : Nat} {N N1 N2 : Mem} (h : FH s N N1) (g : FH s N1 N2) : FH s N N2 := fun r w' i k q => (g r w' i k q).trans (h r w' i k q)
theorem FH.up {s : Nat} {N N1 : Mem} (h : FH (s + 1) N N1) : FH s N N1 := fun r w' i k q => h r w' i k (by omega)
theorem UH.cong {N N' : Mem} {si C S : Nat} {me q : Nat → Nat} (h : UH N si C S me q) (g : FH 0 N N') : UH N' si C S me q := by
  obtain ⟨h1, h2, h3, h4, h5, h6, h7, h8, h9, h10, h11⟩ := h
  exact ⟨fun c hc => by rw [g _ _ _ _ (by omega)]; exact h1 c hc, h2, by rw [g _ _ _ _ (by omega)]; exact h3, h4, fun k hk => by rw [g _ _ _ _ (by omega)]; exact h5 k hk, h6, h7, by rw [g _ _ _ _ (by omega)]; exact h8, h9, h10, by rw [g _ _ _ _ (by omega)]; exact h11⟩
theorem FH.z {s : Nat} {N N1 : Mem} (h : FH s N N1) : FH 0 N N1 := fun r w' i k q => h r w' i k (by omega)
def bet (l : Option Nat) (v : Nat) : Prop := match l with
  | none => True
  | some l => v < l
def lvH (l : Option Nat) : Int32 := match l with
  | none => -1
  | some l => nI l
theorem hires_step {N : Mem} {si C S : Nat} {me q : Nat → Nat} (h : UH N si C S me q) {s p c x : Nat} (hs : s < S) (hp : p ≤ C) (hc : c ≤ C) (rec : Int32 → Int32 → Int32 → Mem → Option Mem) (n : Nat) : mK_hires_82 rec (n + 1) (nI s) (vC p) (nI x) (nI (24 * si + 3 * s)) (vC c) N = (rec (nI (s + 1)) (vC c) (nI (x + kH me q s p c)) (up N 57 0 0 s (vC c))).bind fun q' => mK_hires_82 rec n (nI s) (vC p) (nI x) (nI (24 * si + 3 * s)) (vC (c + 1)) q' := by
  obtain ⟨h1, h2, h3, h4, h5, h6, h7, h8, h9, h10, h11⟩ := h
  have q0 := h7 (3 * s)
  have hm := h6 c
  have g0 : N 66 0 0 (24 * si + 3 * s) = nI (q (3 * s)) := h5 _ (by omega)
  have g1 : N 66 0 0 (24 * si + 3 * s + 1) = nI (q (3 * s + 1)) := h5 (3 * s + 1) (by omega)
  have g2 : N 66 0 0 (24 * si + 3 * s + 2) = nI (q (3 * s + 2)) := h5 (3 * s + 2) (by omega)
  have i2 : nI (24 * si + 3 * s) + 2 = nI (24 * si + 3 * s + 2) := nI_add _ 2
  show mK_hires_82b rec (mK_hires_136 rec (mK_hires_82 rec n)) (nI s) (vC p) (nI x) (nI (24 * si + 3 * s)) (vC c) N = _
  unfold mK_hires_82b
  -- the fine
  have e : ∀ y : Int32, y = nI (if me c < q (3 * s) then q (3 * s + 1) else 0) → mK_hires_136 rec (mK_hires_82 rec n) (nI s) (vC p) (nI x) (nI (24 * si + 3 * s)) (vC c) (nI (me c)) y N = (rec (nI (s + 1)) (vC c) (nI (x + kH me q s p c)) (up N 57 0 0 s (vC c))).bind fun q' => mK_hires_82 rec n (nI s) (vC p) (nI x) (nI (24 * si + 3 * s)) (vC (c + 1)) q' := by
    intro y ey
    unfold mK_hires_136 mK_hires_136b kH
    rw [i2, ixx_nI (by omega) (by decide), g2, pk_mul, ey, nI_add, nI_1, vC_1]
    simp only [ixx_nI (show s < 5 by omega) (show 5 < 2 ^ 31 by decide)]
    generalize (if me c < q (3 * s) then q (3 * s + 1) else 0) = f
    by_cases hc0 : c = 0
    · have en : vC c < 0 := by rw [hc0]; decide
      rw [if_pos en, if_pos (c := c = 0 ∨ c = p) (.inl hc0), Int32.add_zero, nI_add, show x + (f + me c * q (3 * s + 2)) = x + (me c * q (3 * s + 2) + 0 + f) by omega]
    · have en : ¬ vC c < 0 := by
        obtain ⟨c', rfl⟩ : ∃ j, c = j + 1 := ⟨c - 1, by omega⟩
        rw [vC_s]
        exact nI_pos (by omega)
      rw [if_neg en]
      by_cases z : c = p
      · rw [if_pos (by rw [z]), if_pos (c := c = 0 ∨ c = p) (.inr z), Int32.add_zero, nI_add, show x + (f + me c * q (3 * s + 2)) = x + (me c * q (3 * s + 2) + 0 + f) by omega]
      · rw [if_neg (fun k => z ((vC_eq (by omega) (by omega)).mp k)), if_neg (c := c = 0 ∨ c = p) (by omega)]
        have e10 : nI (f + me c * q (3 * s + 2)) + 10 = nI (f + me c * q (3 * s + 2) + 10) := nI_add _ 10
        rw [e10, nI_add, show x + (f + me c * q (3 * s + 2) + 10) = x + (me c * q (3 * s + 2) + 10 + f) by omega]
  rw [h3, if_pos ((vC_lt (by omega) (by omega)).mpr hc)]
  by_cases hc0 : c = 0
  · have en : vC c < 0 := by rw [hc0]; decide
    have m0 : me c = 0 := by rw [hc0]; exact h2
    rw [m0] at e
    rw [if_pos en, ixx_nI (by omega) (by decide), g0, nI_1, ixx_nI (by omega) (by decide), g1]
    by_cases z : 0 < q (3 * s)
    · have z1 : (0 : Int32) < nI (q (3 * s)) := nI_lt (a := 0) z (by omega)
      rw [if_pos z1]
      exact e _ (by rw [if_pos z])
    · have z1 : ¬ (0 : Int32) < nI (q (3 * s)) := by
        rw [show q (3 * s) = 0 by omega]
        decide
      rw [if_neg z1]
      exact e _ (by rw [if_neg z]; rfl)
  · obtain ⟨c, rfl⟩ : ∃ j, c = j + 1 := ⟨c - 1, by omega⟩
    rw [vC_s] at e ⊢
    rw [if_neg (nI_pos (by omega)), ixx_nI (by omega) (by decide), ixx_nI (by omega) (by decide), h1 c (by omega), g0, nI_1, ixx_nI (by omega) (by decide), g1]
    by_cases z : me (c + 1) < q (3 * s)
    · rw [if_pos (nI_lt z (by omega))]
      exact e _ (by rw [if_pos z])
    · rw [if_neg (nI_nlt (by omega) (by omega))]
      exact e _ (by rw [if_neg z]; rfl)
