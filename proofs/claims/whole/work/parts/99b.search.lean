/-! ===== hiring: the search finds the cheapest, the first ===== -/
theorem mnF_add (x : Nat) (g : Nat → Nat) : ∀ n, mnF (fun c => x + g c) n = x + mnF g n
  | 0 => rfl
  | n + 1 => by
    rw [mnF_s, mnF_s, mnF_add x g n]
    by_cases z : g (n + 1) < mnF g n
    · rw [if_pos z, if_pos (by omega)]
    · rw [if_neg z, if_neg (by omega)]
theorem amF_add (x : Nat) (g : Nat → Nat) : ∀ n, amF (fun c => x + g c) n = amF g n
  | 0 => rfl
  | n + 1 => by
    rw [amF_s, amF_s, mnF_add x g n, amF_add x g n]
    by_cases z : g (n + 1) < mnF g n
    · rw [if_pos z, if_pos (by omega)]
    · rw [if_neg z, if_neg (by omega)]
/-- what a search from there does -/
def RH (me q : Nat → Nat) (C S r s p x : Nat) (l : Option Nat) (N N' : Mem) : Prop := FH s N N' ∧ ((bet l (x + oH me q C r s p) ∧ N' 40 0 0 20 = nI (x + oH me q C r s p) ∧ (∀ j, j < s → N' 58 0 0 j = N 57 0 0 j) ∧ ∀ k, k < r → N' 58 0 0 (s + k) = vC (ptH me q C r s p k)) ∨ (¬ bet l (x + oH me q C r s p) ∧ N' 40 0 0 20 = N 40 0 0 20 ∧ ∀ j, j < S → N' 58 0 0 j = N 58 0 0 j))
/-- what the loop has done before j -/
def JH (me q : Nat → Nat) (C S r s p x : Nat) (l : Option Nat) (N : Mem) (j : Nat) (N' : Mem) : Prop := FH s N N' ∧ ((0 < j ∧ bet l (mnF (fun c => x + (kH me q s p c + oH me q C r (s + 1) c)) (j - 1)) ∧ N' 40 0 0 20 = nI (mnF (fun c => x + (kH me q s p c + oH me q C r (s + 1) c)) (j - 1)) ∧ (∀ i, i < s → N' 58 0 0 i = N 57 0 0 i) ∧ N' 58 0 0 s = vC (amF (fun c => x + (kH me q s p c + oH me q C r (s + 1) c)) (j - 1)) ∧ ∀ k, k < r → N' 58 0 0 (s + 1 + k) = vC (ptH me q C r (s + 1) (amF (fun c => x + (kH me q s p c + oH me q C r (s + 1) c)) (j - 1)) k)) ∨ ((j = 0 ∨ ¬ bet l (mnF (fun c => x + (kH me q s p c + oH me q C r (s + 1) c)) (j - 1))) ∧ N' 40 0 0 20 = N 40 0 0 20 ∧ ∀ i, i < S → N' 58 0 0 i = N 58 0 0 i))
theorem hires_loop {me q : Nat → Nat} {si C S r s p x : Nat} {l : Option Nat} {N : Mem} (hsr : s + 1 + r = S) (hp : p ≤ C) (hx : x ≤ 500000 * s) (hl : N 40 0 0 20 = lvH l) (hlb : ∀ v, l = some v → v < 2 ^ 30) (rec : Int32 → Int32 → Int32 → Mem → Option Mem) (Hrec : ∀ (c x' : Nat) (N1 : Mem) (l1 : Option Nat), c ≤ C → x' ≤ 500000 * (s + 1) → UH N1 si C S me q → N1 40 0 0 20 = lvH l1 → (∀ v, l1 = some v → v < 2 ^ 30) → ∃ N2, rec (nI (s + 1)) (vC c) (nI x') N1 = some N2 ∧ RH me q C S r (s + 1) c x' l1 N1 N2) : ∀ (d j n : Nat) (N1 : Mem), j + d = C + 1 → d < n → UH N1 si C S me q → JH me q C S r s p x l N j N1 → ∃ N2, mK_hires_82 rec n (nI s) (vC p) (nI x) (nI (24 * si + 3 * s)) (vC j) N1 = some N2 ∧ JH me q C S r s p x l N (C + 1) N2
  | 0, j, n, N1, hj, hn, h, hJ => by
    obtain ⟨n, rfl⟩ : ∃ k, n = k + 1 := ⟨n - 1, by omega⟩
    obtain rfl : j = C + 1 := hj
    have h4 := h.2.2.2.1
    refine ⟨N1, ?_, hJ⟩
    show mK_hires_82b rec _ (nI s) (vC p) (nI x) (nI (24 * si + 3 * s)) (vC (C + 1)) N1 = _
    unfold mK_hires_82b
    rw [h.2.2.1, if_neg (fun z => by have := (vC_lt (by omega) (by omega)).mp z; omega)]
  | d + 1, j, n, N1, hj, hn, h, hJ => by
    obtain ⟨n, rfl⟩ : ∃ k, n = k + 1 := ⟨n - 1, by omega⟩
    have h6 := h.2.2.2.2.2.1
    have h7 := h.2.2.2.2.2.2.1
    have S5 : S ≤ 5 := h.2.2.2.2.2.2.2.2.2.1
    have kj := kH_le h6 h7 s p j
    have oj := oH_le h6 h7 C r (s + 1) j
    have k0 := kH_le h6 h7 s p 0
    have o0 := oH_le h6 h7 C r (s + 1) 0
    rw [hires_step h (by omega) hp (show j ≤ C by omega)]
    have fu : FH s N1 (up N1 57 0 0 s (vC j)) := fun r' w' i k q' => up_ne (by omega)
    have hU := h.cong fu.z
    obtain ⟨hF, hJ⟩ := hJ
    obtain ⟨g, hg⟩ : ∃ g : Nat → Nat, g = fun c => x + (kH me q s p c + oH me q C r (s + 1) c) := ⟨_, rfl⟩
    rw [← hg] at hJ
    have gj : x + kH me q s p j + oH me q C r (s + 1) j = g j := by rw [hg, Nat.add_assoc]
    have g0 : g 0 ≤ 2 ^ 29 := by
      rw [hg]
      show x + (kH me q s p 0 + oH me q C r (s + 1) 0) ≤ _
      omega
    -- what is least now
    obtain ⟨l1, e1, b1, hbet⟩ : ∃ l1 : Option Nat, N1 40 0 0 20 = lvH l1 ∧ (∀ v, l1 = some v → v < 2 ^ 30) ∧ ((bet l1 (g j) → bet l (g j) ∧ mnF g j = g j ∧ amF g j = j) ∧ (¬ bet l1 (g j) → (0 < j ∧ bet l (mnF g (j - 1)) ∧ mnF g j = mnF g (j - 1) ∧ amF g j = amF g (j - 1)) ∨ ((j = 0 ∨ ¬ bet l (mnF g (j - 1))) ∧ ¬ bet l (mnF g j)))) := by
      rcases hJ with ⟨j0, a1, a2, a3, a4, a5⟩ | ⟨a1, a2, a3⟩
      · obtain ⟨i, rfl⟩ : ∃ i, j = i + 1 := ⟨j - 1, by omega⟩
        rw [Nat.add_sub_cancel] at a1 a2 ⊢
        have m0 := mnF_0 g i
        refine ⟨some (mnF g i), a2, fun v hv => by cases hv; omega, fun z => ?_, fun z => ?_⟩
        · have z : g (i + 1) < mnF g i := z
          refine ⟨?_, ?_, ?_⟩
          · match l, a1 with
            | none, _ => exact trivial
            | some v, a1 =>
              have a1 : mnF g i < v := a1
              show g (i + 1) < v
              omega
          · rw [mnF_s, if_pos z]
          · rw [amF_s, if_pos z]
        · have z : ¬ g (i + 1) < mnF g i := z
          exact .inl ⟨j0, a1, by rw [mnF_s, if_neg z], by rw [amF_s, if_neg z]⟩
      · refine ⟨l, a2.trans hl, hlb, fun z => ⟨z, ?_⟩, fun z => .inr ⟨a1, ?_⟩⟩
        · by_cases j0 : j = 0
          · subst j0
            exact ⟨rfl, rfl⟩
          · obtain ⟨i, rfl⟩ : ∃ i, j = i + 1 := ⟨j - 1, by omega⟩
            have a1 := a1.resolve_left j0
            rw [Nat.add_sub_cancel] at a1
            have lt : g (i + 1) < mnF g i := by
              match l, a1, z with
              | none, a1, _ => exact absurd trivial a1
              | some v, a1, z =>
                have a1 : ¬ mnF g i < v := a1
                have z : g (i + 1) < v := z
                omega
            exact ⟨by rw [mnF_s, if_pos lt], by rw [amF_s, if_pos lt]⟩
        · by_cases j0 : j = 0
          · subst j0
            exact z
          · obtain ⟨i, rfl⟩ : ∃ i, j = i + 1 := ⟨j - 1, by omega⟩
            have a1 := a1.resolve_left j0
            rw [Nat.add_sub_cancel] at a1
            rw [mnF_s]
            split
            · exact z
            · exact a1
    obtain ⟨N2, r1, rF, r2⟩ := Hrec j (x + kH me q s p j) (up N1 57 0 0 s (vC j)) l1 (by omega) (by omega) hU (by rw [upR (by decide)]; exact e1) b1
    rw [r1]
    show ∃ N3, mK_hires_82 rec n (nI s) (vC p) (nI x) (nI (24 * si + 3 * s)) (vC (j + 1)) N2 = some N3 ∧ _
    have F2 : FH s N N2 := (hF.tr fu).tr rF.up
    refine hires_loop hsr hp hx hl hlb rec Hrec d (j + 1) n N2 (by omega) (by omega) (hU.cong rF.z) ⟨F2, ?_⟩
    rw [← hg, Nat.add_sub_cancel]
    rw [gj] at r2
    rcases r2 with ⟨p1, p2, p3, p4⟩ | ⟨p1, p2, p3⟩
    · obtain ⟨w1, w2, w3⟩ := hbet.1 p1
      left
      rw [w2, w3]
      refine ⟨by omega, w1, p2, fun i hi => ?_, ?_, p4⟩
      · rw [p3 i (by omega), up_ne (by omega)]
        exact hF 57 0 0 i (by omega)
      · rw [p3 s (by omega), up_eq]
    · rcases hbet.2 p1 with ⟨w0, w1, w2, w3⟩ | ⟨w1, w2⟩
      · left
        rw [w2, w3]
        rcases hJ with ⟨j0, a1, a2, a3, a4, a5⟩ | ⟨a1, a2, a3⟩
        · refine ⟨by omega, w1, by rw [p2, upR (by decide)]; exact a2, fun i hi => ?_, ?_, fun k hk => ?_⟩
          · rw [p3 i (by omega), upR (by decide)]
            exact a3 i hi
          · rw [p3 s (by omega), upR (by decide)]
            exact a4
          · rw [p3 _ (by omega), upR (by decide)]
            exact a5 k hk
        · rcases a1 with z | z
          · omega
          · exact absurd w1 z
      · right
        rcases hJ with ⟨j0, a1, a2, a3, a4, a5⟩ | ⟨a1, a2, a3⟩
        · rcases w1 with z | z
          · omega
          · exact absurd a1 z
        · refine ⟨.inr w2, by rw [p2, upR (by decide)]; exact a2, fun i hi => ?_⟩
          rw [p3 i hi, upR (by decide)]
          exact a3 i hi
