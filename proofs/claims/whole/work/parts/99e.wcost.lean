/-! ===== wintering: the class's table ===== -/
theorem mnG_b (g : Nat → Nat) : ∀ n, mnG g n ≤ 1000000000
  | 0 => Nat.le_refl _
  | n + 1 => by
    have := mnG_b g n
    rw [mnG_s]
    split <;> omega
theorem oW_s (cst : Nat → Nat → Nat) (C T r m : Nat) : oW cst C T (r + 1) m = mnG (gW cst (oW cst C T r) (C - (r + 1)) m) T := rfl
theorem oW_b (cst : Nat → Nat → Nat) (C T : Nat) : ∀ r m, oW cst C T r m ≤ 1000000000
  | 0, _ => Nat.zero_le _
  | _ + 1, _ => mnG_b _ _
theorem free8 {m T : Nat} (hT : T ≤ 8) (hm : m < 2 ^ T) (h : pc8 m < T) : ∃ t, t < T ∧ m.testBit t = false := by
  have e : ∀ a : Fin 9, ∀ j : Fin 256, j.val < 2 ^ a.val → pc8 j.val < a.val → ∃ t : Fin 8, t.val < a.val ∧ j.val.testBit t.val = false := by decide +kernel
  have h256 : m < 256 := Nat.lt_of_lt_of_le hm (Nat.pow_le_pow_right (by decide) hT)
  obtain ⟨t, q1, q2⟩ := e ⟨T, by omega⟩ ⟨m, h256⟩ hm h
  exact ⟨t.val, q1, q2⟩
theorem or_lt2 {m t T : Nat} (hm : m < 2 ^ T) (ht : t < T) : m ||| 2 ^ t < 2 ^ T := Nat.or_lt_two_pow hm (Nat.pow_lt_pow_right (by decide) ht)
theorem oW_le {cst : Nat → Nat → Nat} (hc : ∀ c t, cst c t ≤ 9999) {C T : Nat} (hT : T ≤ 8) : ∀ r m, m < 2 ^ T → pc8 m + r ≤ T → oW cst C T r m ≤ 9999 * r
  | 0, _, _, _ => Nat.zero_le _
  | r + 1, m, hm, h => by
    have h256 : m < 256 := Nat.lt_of_lt_of_le hm (Nat.pow_le_pow_right (by decide) hT)
    obtain ⟨t, q1, q2⟩ := free8 hT hm (by omega)
    have p := pc8_or m t h256 (by omega) q2
    have i1 := oW_le hc (C := C) hT r (m ||| 2 ^ t) (or_lt2 hm q1) (by omega)
    have i2 := hc (C - (r + 1)) t
    have i3 := mnG_le (gW cst (oW cst C T r) (C - (r + 1)) m) T t q1
    have i4 : gW cst (oW cst C T r) (C - (r + 1)) m t = cst (C - (r + 1)) t + oW cst C T r (m ||| 2 ^ t) := by
      unfold gW
      rw [q2]
      rfl
    rw [oW_s]
    omega
def WH (M : Mem) (w C T : Nat) (cst : Nat → Nat → Nat) : Prop := M 1 w 0 6 = nI C ∧ M 1 w 0 2 = nI T ∧ C ≤ 5 ∧ T ≤ 8 ∧ C ≤ T ∧ (∀ c t, c < C → t < T → M 8 w c t = nI (cst c t)) ∧ ∀ c t, cst c t ≤ 9999
theorem WH.cong {M M' : Mem} {w C T : Nat} {cst : Nat → Nat → Nat} (h : WH M w C T cst) (g : ∀ r w' i k, r ≠ 24 → M' r w' i k = M r w' i k) : WH M' w C T cst := by
  obtain ⟨h1, h2, h3, h4, h5, h6, h7⟩ := h
  exact ⟨by rw [g _ _ _ _ (by decide)]; exact h1, by rw [g _ _ _ _ (by decide)]; exact h2, h3, h4, h5, fun c t hc ht => by rw [g _ _ _ _ (by decide)]; exact h6 c t hc ht, h7⟩
theorem P_winterNext_eq {M : Mem} {w C T : Nat} {cst : Nat → Nat → Nat} (h : WH M w C T cst) {m t o : Nat} (hm : m < 256) (hp : pc8 m < C) (ht : t < T) (ho : M 24 0 0 (m ||| 2 ^ t) = nI o) : mP_winterNext w (nI m) (nI t) M = some (nI (cst (pc8 m) t + o), M) := by
  obtain ⟨h1, h2, h3, h4, h5, h6, h7⟩ := h
  unfold mP_winterNext
  rw [J_bit m hm]
  simp only [Option.bind_some]
  rw [ixx_nI (by omega) (by decide), ixx_nI (by omega) (by decide), bit_or m t hm (by omega), ixx_nI (or_lt m t hm (by omega)) (by decide), h6 _ _ hp ht, ho, nI_add]
theorem wc_loop {M : Mem} {w C T : Nat} {cst : Nat → Nat → Nat} (h : WH M w C T cst) {m : Nat} {o : Nat → Nat} (hm : m < 256) (hp : pc8 m < C) (hob : ∀ k, o k ≤ 1000000000) (ho : ∀ t, t < T → m.testBit t = false → M 24 0 0 (m ||| 2 ^ t) = nI (o (m ||| 2 ^ t))) : ∀ (d i n : Nat), i + d = T → d < n → mP_winterChoice_9 n w (nI m) (nI (amG (gW cst o (pc8 m) m) i)) (nI (mnG (gW cst o (pc8 m) m) i)) (nI i) M = some (nI (amG (gW cst o (pc8 m) m) T), M)
  | 0, i, n, hi, hn => by
    obtain ⟨n, rfl⟩ : ∃ k, n = k + 1 := ⟨n - 1, by omega⟩
    obtain rfl : i = T := hi
    have h4 := h.2.2.2.1
    show mP_winterChoice_9b (mP_winterChoice_9 n) w (nI m) _ _ (nI i) M = _
    unfold mP_winterChoice_9b
    rw [h.2.1, if_neg (nI_nlt (Nat.le_refl _) (by omega))]
  | d + 1, i, n, hi, hn => by
    obtain ⟨n, rfl⟩ : ∃ k, n = k + 1 := ⟨n - 1, by omega⟩
    have h4 := h.2.2.2.1
    have h7 := h.2.2.2.2.2.2
    have ih := wc_loop h hm hp hob ho d (i + 1) n (by omega) (by omega)
    rw [amG_s, mnG_s] at ih
    have mb := mnG_b (gW cst o (pc8 m) m) i
    show mP_winterChoice_9b (mP_winterChoice_9 n) w (nI m) _ _ (nI i) M = _
    unfold mP_winterChoice_9b
    rw [h.2.1, if_pos (nI_lt (by omega) (by omega)), bit_is m i hm (by omega), nI_1]
    by_cases zb : m.testBit i = true
    · rw [if_pos zb, if_neg (by decide)]
      have e : gW cst o (pc8 m) m i = 1000000000 := by
        unfold gW
        rw [if_pos zb]
      rw [e, if_neg (by omega), if_neg (by omega)] at ih
      exact ih
    · have zf : m.testBit i = false := by
        cases q : m.testBit i with
        | true => exact absurd q zb
        | false => rfl
      have e : gW cst o (pc8 m) m i = cst (pc8 m) i + o (m ||| 2 ^ i) := by
        unfold gW
        rw [if_neg zb]
      have c1 := h7 (pc8 m) i
      have c2 := hob (m ||| 2 ^ i)
      rw [if_neg zb, if_pos rfl, P_winterNext_eq h hm hp (by omega) (ho i (by omega) zf), ← e]
      simp only [Option.bind_some]
      by_cases z : gW cst o (pc8 m) m i < mnG (gW cst o (pc8 m) m) i
      · rw [if_pos (nI_lt z (by omega)), if_pos (nI_lt z (by omega))]
        rw [if_pos z, if_pos z] at ih
        exact ih
      · rw [if_neg (nI_nlt (by omega) (by omega)), if_neg (nI_nlt (by omega) (by omega))]
        rw [if_neg z, if_neg z] at ih
        exact ih
theorem P_winterChoice_eq {M : Mem} {w C T : Nat} {cst : Nat → Nat → Nat} (h : WH M w C T cst) {m : Nat} {o : Nat → Nat} (hm : m < 256) (hp : pc8 m < C) (hob : ∀ k, o k ≤ 1000000000) (ho : ∀ t, t < T → m.testBit t = false → M 24 0 0 (m ||| 2 ^ t) = nI (o (m ||| 2 ^ t))) : mP_winterChoice w (nI m) M = some (nI (amG (gW cst o (pc8 m) m) T), M) := by
  have h4 := h.2.2.2.1
  exact wc_loop h hm hp hob ho T 0 fuel (by omega) (by unfold fuel; omega)
/-- the table is right from m on -/
def TW (M : Mem) (C T : Nat) (cst : Nat → Nat → Nat) (m : Nat) : Prop := ∀ k, m ≤ k → k < 2 ^ T → M 24 0 0 k = nI (oW cst C T (C - pc8 k) k)
theorem TW.row {M : Mem} {C T : Nat} {cst : Nat → Nat → Nat} {m : Nat} (hW : TW M C T cst (m + 1)) (hT : T ≤ 8) (hm : m < 2 ^ T) (hp : pc8 m < C) : ∀ t, t < T → m.testBit t = false → M 24 0 0 (m ||| 2 ^ t) = nI (oW cst C T (C - pc8 m - 1) (m ||| 2 ^ t)) := by
  intro t ht hb
  have h256 : m < 256 := Nat.lt_of_lt_of_le hm (Nat.pow_le_pow_right (by decide) hT)
  have p := pc8_or m t h256 (by omega) hb
  have := hW (m ||| 2 ^ t) (by omega) (or_lt2 hm ht)
  rw [p.1, show C - (pc8 m + 1) = C - pc8 m - 1 by omega] at this
  exact this
theorem wc_9 {w C T : Nat} {cst : Nat → Nat → Nat} : ∀ (m n : Nat) (M : Mem), m ≤ 2 ^ T → m < n → WH M w C T cst → TW M C T cst m → ∃ M', mP_winterCost_9 n w (nI m - 1) M = some (nI (oW cst C T C 0), M') ∧ (∀ r w' i k, r ≠ 24 → M' r w' i k = M r w' i k) ∧ TW M' C T cst 0
  | 0, n, M, hm, hn, h, hW => by
    obtain ⟨n, rfl⟩ : ∃ k, n = k + 1 := ⟨n - 1, by omega⟩
    refine ⟨M, ?_, fun _ _ _ _ _ => rfl, hW⟩
    show mP_winterCost_9b (mP_winterCost_9 n) w (nI 0 - 1) M = _
    unfold mP_winterCost_9b
    have z := hW 0 (Nat.le_refl _) (Nat.two_pow_pos T)
    have p0 : pc8 0 = 0 := by decide
    rw [p0] at z
    rw [if_pos (by decide), z]
    rfl
  | m + 1, n, M, hm, hn, h, hW => by
    obtain ⟨n, rfl⟩ : ∃ k, n = k + 1 := ⟨n - 1, by omega⟩
    have h3 := h.2.2.1
    have h4 := h.2.2.2.1
    have h5 := h.2.2.2.2.1
    have h7 := h.2.2.2.2.2.2
    have m2 : m < 2 ^ T := by omega
    have m256 : m < 256 := Nat.lt_of_lt_of_le m2 (Nat.pow_le_pow_right (by decide) h4)
    have fr : ∀ v r w' i k, r ≠ 24 → up M 24 0 0 m v r w' i k = M r w' i k := fun v r w' i k hr => upR hr
    have go : ∀ v, v = oW cst C T (C - pc8 m) m → ∀ M1, (∀ r w' i k, ¬ (r = 24 ∧ w' = 0 ∧ i = 0 ∧ k = m) → M1 r w' i k = M r w' i k) → M1 24 0 0 m = nI v → ∃ M', mP_winterCost_9 n w (nI m - 1) M1 = some (nI (oW cst C T C 0), M') ∧ (∀ r w' i k, r ≠ 24 → M' r w' i k = M r w' i k) ∧ TW M' C T cst 0 := by
      intro v hv M1 f1 e1
      obtain ⟨M2, a1, a2, a3⟩ := wc_9 m n M1 (by omega) (by omega) (h.cong fun r w' i k hr => f1 r w' i k (by omega)) (fun k hk1 hk2 => by
        by_cases ek : k = m
        · subst ek
          rw [e1, hv]
        · rw [f1 _ _ _ _ (by omega)]
          exact hW k (by omega) hk2)
      exact ⟨M2, a1, fun r w' i k hr => by rw [a2 r w' i k hr, f1 r w' i k (by omega)], a3⟩
    show ∃ M', mP_winterCost_9b (mP_winterCost_9 n) w (nI (m + 1) - 1) M = _ ∧ _
    unfold mP_winterCost_9b
    rw [nI_pred, if_neg (nI_pos (by omega)), ixx_nI m256 (by decide)]
    simp only [J_bit m m256, Option.bind_some]
    have c6 : up M 24 0 0 m 0 1 w 0 6 = nI C := by rw [upR (by decide)]; exact h.1
    have pb : pc8 m ≤ 8 := fb_ct_le _ _
    rw [c6, ← Int32.sub_eq_add_neg]
    by_cases z : pc8 m < C
    · have hU := h.cong (fr 0)
      have hr : ∀ t, t < T → m.testBit t = false → up M 24 0 0 m 0 24 0 0 (m ||| 2 ^ t) = nI (oW cst C T (C - pc8 m - 1) (m ||| 2 ^ t)) := fun t ht hb => by
        have p := pc8_or m t m256 (by omega) hb
        rw [up_ne (by omega)]
        exact hW.row h4 m2 z t ht hb
      have ch := P_winterChoice_eq hU (o := oW cst C T (C - pc8 m - 1)) m256 z (oW_b cst C T _) hr
      have eo : oW cst C T (C - pc8 m) m = mnG (gW cst (oW cst C T (C - pc8 m - 1)) (pc8 m) m) T := by
        obtain ⟨r, hr'⟩ : ∃ r, C - pc8 m = r + 1 := ⟨C - pc8 m - 1, by omega⟩
        rw [hr', oW_s, show C - (r + 1) = pc8 m by omega, Nat.add_sub_cancel]
      have lo := oW_le h7 (C := C) h4 (C - pc8 m) m m2 (by omega)
      have av := amG_v (gW cst (oW cst C T (C - pc8 m - 1)) (pc8 m) m) T (by rw [← eo]; omega)
      have fb : m.testBit (amG (gW cst (oW cst C T (C - pc8 m - 1)) (pc8 m) m) T) = false := by
        cases qq : m.testBit (amG (gW cst (oW cst C T (C - pc8 m - 1)) (pc8 m) m) T) with
        | false => rfl
        | true =>
          have : gW cst (oW cst C T (C - pc8 m - 1)) (pc8 m) m (amG (gW cst (oW cst C T (C - pc8 m - 1)) (pc8 m) m) T) = 1000000000 := by
            show (if m.testBit (amG (gW cst (oW cst C T (C - pc8 m - 1)) (pc8 m) m) T) = true then 1000000000 else _) = _
            rw [if_pos qq]
          rw [av.2, ← eo] at this
          omega
      have nx := P_winterNext_eq hU m256 z av.1 (hr _ av.1 fb)
      have ev : cst (pc8 m) (amG (gW cst (oW cst C T (C - pc8 m - 1)) (pc8 m) m) T) + oW cst C T (C - pc8 m - 1) (m ||| 2 ^ (amG (gW cst (oW cst C T (C - pc8 m - 1)) (pc8 m) m) T)) = oW cst C T (C - pc8 m) m := by
        rw [eo, ← av.2]
        show _ = (if m.testBit (amG (gW cst (oW cst C T (C - pc8 m - 1)) (pc8 m) m) T) = true then 1000000000 else _)
        rw [if_neg (by rw [fb]; decide)]
      rw [ev] at nx
      rw [if_pos (nI_lt z (by omega)), ch]
      simp only [Option.bind_some, nx, ixx_nI m256 (show 256 < 2 ^ 31 by decide)]
      exact go _ rfl _ (fun r w' i k hq => by rw [up_ne hq, up_ne hq]) up_eq
    · rw [if_neg (nI_nlt (by omega) (by omega))]
      exact go 0 (by rw [show C - pc8 m = 0 by omega]; rfl) _ (fun r w' i k hq => up_ne hq) up_eq
