/-! ===== wintering: the reference's search ===== -/
def UW (N : Mem) (C T : Nat) (cst : Nat → Nat → Nat) : Prop := N 41 0 0 0 = nI T ∧ N 41 0 0 2 = nI C ∧ C ≤ 5 ∧ T ≤ 8 ∧ C ≤ T ∧ (∀ c t, c < C → t < T → N 41 0 0 (1392 + 8 * c + t) = nI (cst c t)) ∧ ∀ c t, cst c t ≤ 9999
def FW (s : Nat) (N N' : Mem) : Prop := ∀ r w' i k, ¬ ((r = 40 ∧ k = 15) ∨ (r = 54 ∧ s ≤ k) ∨ r = 55) → N' r w' i k = N r w' i k
theorem FW.tr {s : Nat} {N N1 N2 : Mem} (h : FW s N N1) (g : FW s N1 N2) : FW s N N2 := fun r w' i k q => (g r w' i k q).trans (h r w' i k q)
theorem FW.up {s : Nat} {N N1 : Mem} (h : FW (s + 1) N N1) : FW s N N1 := fun r w' i k q => h r w' i k (by omega)
theorem UW.cong {N N' : Mem} {C T s : Nat} {cst : Nat → Nat → Nat} (h : UW N C T cst) (g : FW s N N') : UW N' C T cst := by
  obtain ⟨h1, h2, h3, h4, h5, h6, h7⟩ := h
  exact ⟨by rw [g _ _ _ _ (by omega)]; exact h1, by rw [g _ _ _ _ (by omega)]; exact h2, h3, h4, h5, fun c t hc ht => by rw [g _ _ _ _ (by omega)]; exact h6 c t hc ht, h7⟩
theorem settle_step {N : Mem} {C T : Nat} {cst : Nat → Nat → Nat} (h : UW N C T cst) {s m t x : Nat} (hs : s < C) (hm : m < 256) (ht : t < T) (rec : Int32 → Int32 → Int32 → Mem → Option Mem) (n : Nat) : mK_settle_64 rec (n + 1) (nI s) (nI m) (nI x) (nI t) N = if m.testBit t = true then mK_settle_64 rec n (nI s) (nI m) (nI x) (nI (t + 1)) N else (rec (nI (s + 1)) (nI (m ||| 2 ^ t)) (nI (x + cst s t)) (up N 54 0 0 s (nI t))).bind fun q' => mK_settle_64 rec n (nI s) (nI m) (nI x) (nI (t + 1)) q' := by
  obtain ⟨h1, h2, h3, h4, h5, h6, h7⟩ := h
  show mK_settle_64b rec (mK_settle_64 rec n) (nI s) (nI m) (nI x) (nI t) N = _
  unfold mK_settle_64b
  have ix : (1392 : Int32) + 8 * nI s + nI t = nI (1392 + 8 * s + t) := ix3 1392 8 s t
  rw [h1, if_pos (nI_lt ht (by omega)), bit_is m t hm (by omega), bit_or m t hm (by omega), ix, nI_1, nI_1]
  by_cases z : m.testBit t = true
  · rw [if_pos z, if_pos z, if_pos rfl]
  · rw [if_neg z, if_neg z, if_neg (by decide)]
    simp only [ixx_nI (show s < 5 by omega) (show 5 < 2 ^ 31 by decide), ixx_nI (show 1392 + 8 * s + t < 1502 by omega) (show 1502 < 2 ^ 31 by decide)]
    rw [upR (by decide), h6 s t hs ht, nI_add]
def ptW (cst : Nat → Nat → Nat) (C T : Nat) : Nat → Nat → Nat → Nat → Nat
  | 0, _, _, _ => 0
  | r + 1, s, m, 0 => amG (gW cst (oW cst C T r) s m) T
  | r + 1, s, m, k + 1 => ptW cst C T r (s + 1) (m ||| 2 ^ (amG (gW cst (oW cst C T r) s m) T)) k
def RHW (cst : Nat → Nat → Nat) (C T r s m x : Nat) (l : Option Nat) (N N' : Mem) : Prop := FW s N N' ∧ ((bet l (x + oW cst C T r m) ∧ N' 40 0 0 15 = nI (x + oW cst C T r m) ∧ (∀ j, j < s → N' 55 0 0 j = N 54 0 0 j) ∧ ∀ k, k < r → N' 55 0 0 (s + k) = nI (ptW cst C T r s m k)) ∨ (¬ bet l (x + oW cst C T r m) ∧ N' 40 0 0 15 = N 40 0 0 15 ∧ ∀ j, j < C → N' 55 0 0 j = N 55 0 0 j))
def JHW (cst : Nat → Nat → Nat) (C T r s m x : Nat) (l : Option Nat) (N : Mem) (g : Nat → Nat) (j : Nat) (N' : Mem) : Prop := FW s N N' ∧ ((mnG g j < 1000000000 ∧ bet l (x + mnG g j) ∧ N' 40 0 0 15 = nI (x + mnG g j) ∧ (∀ i, i < s → N' 55 0 0 i = N 54 0 0 i) ∧ N' 55 0 0 s = nI (amG g j) ∧ ∀ k, k < r → N' 55 0 0 (s + 1 + k) = nI (ptW cst C T r (s + 1) (m ||| 2 ^ (amG g j)) k)) ∨ ((mnG g j = 1000000000 ∨ ¬ bet l (x + mnG g j)) ∧ N' 40 0 0 15 = N 40 0 0 15 ∧ ∀ i, i < C → N' 55 0 0 i = N 55 0 0 i))
theorem settle_loop {cst : Nat → Nat → Nat} {C T r s m x : Nat} {l : Option Nat} {N : Mem} {g : Nat → Nat} (hg : g = gW cst (oW cst C T r) s m) (hsr : s + 1 + r = C) (hm : m < 2 ^ T) (hpc : pc8 m = s) (hx : x ≤ 9999 * s) (hl : N 40 0 0 15 = lvH l) (hlb : ∀ v, l = some v → v < 2 ^ 30) (rec : Int32 → Int32 → Int32 → Mem → Option Mem) (Hrec : ∀ (m' x' : Nat) (N1 : Mem) (l1 : Option Nat), m' < 2 ^ T → pc8 m' = s + 1 → x' ≤ 9999 * (s + 1) → UW N1 C T cst → N1 40 0 0 15 = lvH l1 → (∀ v, l1 = some v → v < 2 ^ 30) → ∃ N2, rec (nI (s + 1)) (nI m') (nI x') N1 = some N2 ∧ RHW cst C T r (s + 1) m' x' l1 N1 N2) : ∀ (d j n : Nat) (N1 : Mem), j + d = T → d < n → UW N1 C T cst → JHW cst C T r s m x l N g j N1 → ∃ N2, mK_settle_64 rec n (nI s) (nI m) (nI x) (nI j) N1 = some N2 ∧ JHW cst C T r s m x l N g T N2
  | 0, j, n, N1, hj, hn, h, hJ => by
    obtain ⟨n, rfl⟩ : ∃ k, n = k + 1 := ⟨n - 1, by omega⟩
    obtain rfl : j = T := hj
    have h4 := h.2.2.2.1
    refine ⟨N1, ?_, hJ⟩
    show mK_settle_64b rec _ (nI s) (nI m) (nI x) (nI j) N1 = _
    unfold mK_settle_64b
    rw [h.1, if_neg (nI_nlt (Nat.le_refl _) (by omega))]
  | d + 1, j, n, N1, hj, hn, h, hJ => by
    obtain ⟨n, rfl⟩ : ∃ k, n = k + 1 := ⟨n - 1, by omega⟩
    have h3 := h.2.2.1
    have h4 := h.2.2.2.1
    have h5 := h.2.2.2.2.1
    have h7 := h.2.2.2.2.2.2
    have h256 : m < 256 := Nat.lt_of_lt_of_le hm (Nat.pow_le_pow_right (by decide) h4)
    rw [settle_step h (by omega) h256 (show j < T by omega)]
    by_cases zb : m.testBit j = true
    · rw [if_pos zb]
      have gj : g j = 1000000000 := by
        rw [hg]
        show (if m.testBit j = true then 1000000000 else _) = _
        rw [if_pos zb]
      have mb := mnG_b g j
      refine settle_loop hg hsr hm hpc hx hl hlb rec Hrec d (j + 1) n N1 (by omega) (by omega) h ?_
      unfold JHW
      rw [mnG_s, amG_s, if_neg (by omega), if_neg (by omega)]
      exact hJ
    · rw [if_neg zb]
      have zf : m.testBit j = false := by
        cases qq : m.testBit j with
        | true => exact absurd qq zb
        | false => rfl
      have pj := pc8_or m j h256 (by omega) zf
      have gj : g j = cst s j + oW cst C T r (m ||| 2 ^ j) := by
        rw [hg]
        show (if m.testBit j = true then 1000000000 else _) = _
        rw [if_neg zb]
      have c1 := h7 s j
      have c2 := oW_le h7 (C := C) h4 r (m ||| 2 ^ j) (or_lt2 hm (by omega)) (by omega)
      have mb := mnG_b g j
      have fu : FW s N1 (up N1 54 0 0 s (nI j)) := fun r' w' i k q' => up_ne (by omega)
      have hU := h.cong fu
      obtain ⟨hF, hJ⟩ := hJ
      obtain ⟨l1, e1, b1, hbet⟩ : ∃ l1 : Option Nat, N1 40 0 0 15 = lvH l1 ∧ (∀ v, l1 = some v → v < 2 ^ 30) ∧ ((bet l1 (x + g j) → bet l (x + g j) ∧ g j < mnG g j) ∧ (¬ bet l1 (x + g j) → (mnG g j < 1000000000 ∧ bet l (x + mnG g j) ∧ ¬ g j < mnG g j) ∨ ((mnG g j = 1000000000 ∨ ¬ bet l (x + mnG g j)) ∧ ¬ bet l (x + (if g j < mnG g j then g j else mnG g j))))) := by
        rcases hJ with ⟨j0, a1, a2, a3, a4, a5⟩ | ⟨a1, a2, a3⟩
        · have lb : x + mnG g j < 2 ^ 30 := by omega
          refine ⟨some (x + mnG g j), a2, fun v hv => by cases hv; exact lb, fun z => ?_, fun z => ?_⟩
          · have z : x + g j < x + mnG g j := z
            refine ⟨?_, by omega⟩
            match l, a1 with
            | none, _ => exact trivial
            | some v, a1 =>
              have a1 : x + mnG g j < v := a1
              show x + g j < v
              omega
          · have z : ¬ x + g j < x + mnG g j := z
            exact .inl ⟨j0, a1, by omega⟩
        · refine ⟨l, a2.trans hl, hlb, fun z => ⟨z, ?_⟩, fun z => .inr ⟨a1, ?_⟩⟩
          · rcases a1 with a1 | a1
            · omega
            · match l, a1, z with
              | none, a1, _ => exact absurd trivial a1
              | some v, a1, z =>
                have a1 : ¬ x + mnG g j < v := a1
                have z : x + g j < v := z
                omega
          · split
            · exact z
            · rename_i zz
              rcases a1 with a1 | a1
              · omega
              · exact a1
      obtain ⟨N2, r1, rF, r2⟩ := Hrec (m ||| 2 ^ j) (x + cst s j) (up N1 54 0 0 s (nI j)) l1 (or_lt2 hm (by omega)) (by rw [pj.1, hpc]) (by omega) hU (by rw [upR (by decide)]; exact e1) b1
      rw [r1]
      show ∃ N3, mK_settle_64 rec n (nI s) (nI m) (nI x) (nI (j + 1)) N2 = some N3 ∧ _
      have F2 : FW s N N2 := (hF.tr fu).tr rF.up
      refine settle_loop hg hsr hm hpc hx hl hlb rec Hrec d (j + 1) n N2 (by omega) (by omega) (hU.cong rF) ⟨F2, ?_⟩
      rw [mnG_s, amG_s]
      rw [Nat.add_assoc, ← gj] at r2
      rcases r2 with ⟨p1, p2, p3, p4⟩ | ⟨p1, p2, p3⟩
      · obtain ⟨w1, w2⟩ := hbet.1 p1
        left
        rw [if_pos w2, if_pos w2]
        refine ⟨by omega, w1, p2, fun i hi => ?_, ?_, p4⟩
        · rw [p3 i (by omega), up_ne (by omega)]
          exact hF 54 0 0 i (by omega)
        · rw [p3 s (by omega), up_eq]
      · rcases hbet.2 p1 with ⟨w0, w1, w2⟩ | ⟨w1, w2⟩
        · left
          rw [if_neg w2, if_neg w2]
          rcases hJ with ⟨j0, a1, a2, a3, a4, a5⟩ | ⟨a1, a2, a3⟩
          · refine ⟨w0, w1, by rw [p2, upR (by decide)]; exact a2, fun i hi => ?_, ?_, fun k hk => ?_⟩
            · rw [p3 i (by omega), upR (by decide)]
              exact a3 i hi
            · rw [p3 s (by omega), upR (by decide)]
              exact a4
            · rw [p3 _ (by omega), upR (by decide)]
              exact a5 k hk
          · rcases a1 with z | z
            · omega
            · exact absurd w1 z
        · right
          rcases hJ with ⟨j0, a1, a2, a3, a4, a5⟩ | ⟨a1, a2, a3⟩
          · rcases w1 with z | z
            · omega
            · exact absurd a1 z
          · refine ⟨.inr w2, by rw [p2, upR (by decide)]; exact a2, fun i hi => ?_⟩
            rw [p3 i hi, upR (by decide)]
            exact a3 i hi
