/-! ===== a month's end, days ===== -/
theorem K_month_108 {b o L du : Nat} {N : Mem} (h24 : b < 24) (e8 : N 41 0 0 (1056 + 14 * b + 8) = nI o) (e10 : N 41 0 0 (1056 + 14 * b + 10) = nI L) (ho : o + du < 2 ^ 31) (hL : L < 2 ^ 31) (c t : Int32) : mK_month_108 (nI b) c t (nI du) N = mK_month_185 (nI b) c t (nI (min L (o + du))) (up (if o = 0 then up N 41 0 0 (1056 + 14 * b + 9) (N 41 0 0 6) else N) 41 0 0 (1056 + 14 * b + 8) (nI (o + du))) := by
  unfold mK_month_108 mK_month_108b
  simp only [K_bond_8 h24, K_bond_10 h24, K_writes_8 h24, K_writes_9 h24, Option.bind_some, e8, up_eq]
  have fin : ∀ (N1 : Mem), N1 41 0 0 (1056 + 14 * b + 10) = nI L → (if up N1 41 0 0 (1056 + 14 * b + 8) (nI o + nI du) 41 0 0 (1056 + 14 * b + 10) < nI o + nI du then mK_month_185 (nI b) c t (up N1 41 0 0 (1056 + 14 * b + 8) (nI o + nI du) 41 0 0 (1056 + 14 * b + 10)) (up N1 41 0 0 (1056 + 14 * b + 8) (nI o + nI du)) else mK_month_185 (nI b) c t (nI o + nI du) (up N1 41 0 0 (1056 + 14 * b + 8) (nI o + nI du))) = mK_month_185 (nI b) c t (nI (min L (o + du))) (up N1 41 0 0 (1056 + 14 * b + 8) (nI (o + du))) := by
    intro N1 h1
    rw [up_ne (by omega), h1, nI_add]
    by_cases z : L < o + du
    · rw [if_pos (nI_lt z ho), Nat.min_eq_left (by omega)]
    · rw [if_neg (nI_nlt (by omega) hL), Nat.min_eq_right (by omega)]
  by_cases z : o = 0
  · rw [if_pos z, if_pos (show nI o = 0 by rw [z]; rfl)]
    have x8 : up N 41 0 0 (1056 + 14 * b + 9) (N 41 0 0 6) 41 0 0 (1056 + 14 * b + 8) = nI o := by rw [up_ne (by omega)]; exact e8
    rw [x8]
    exact fin _ (by rw [up_ne (by omega)]; exact e10)
  · rw [if_neg z, if_neg (nI_nz (by omega) z)]
    exact fin N e10
theorem settle_ok {B w b : Nat} {M N : Mem} (h : RW B M w (N 41 0 0)) (hB : B < 10001) (hb : b < cn (N 41 0 0) 5) (hk : isCt (N 41 0 0 (1056 + 14 * b))) (hin : N 41 0 0 (1056 + 14 * b + 2) ≤ N 41 0 0 6 ∧ N 41 0 0 6 ≤ N 41 0 0 (1056 + 14 * b + 3)) (hm : 1 ≤ cn (N 41 0 0) 6 / 30) (hlow : isN (N 41 0 0 (1056 + 14 * b + 8)) (100000 * (cn (N 41 0 0) 6 / 30) - 99999)) : ∃ M' N', mW_settle w w b M = some M' ∧ mK_month (nI b) N = some N' ∧ RW B M' w (N' 41 0 0) ∧ DF w M N M' N' ∧ KS b N N' := by
  have b0 := h.c.b0
  have b2 := h.c.b2
  have b5 := h.c.b5
  have b6 := h.c.b6
  have h24 : b < 24 := by omega
  obtain ⟨q1, q2, ⟨c, hc, ec⟩, q4, q5, -, q7, ⟨L, hL, eL⟩, q9⟩ := h.b b hb
  obtain ⟨o, ho, eo⟩ := hlow
  obtain ⟨⟨t, ht, et⟩, _⟩ := q5 hk
  obtain ⟨t1, ⟨tc, htc, etc⟩, -⟩ := h.t t ht
  have c5 : c < 5 := by omega
  have t8 : t < 8 := by omega
  obtain ⟨⟨a0, a1, a2, a3, a8, a9, a11⟩, -⟩ := h.p c hc
  have q10 : M 15 w b 0 = N 41 0 0 (1056 + 14 * b) := q1 0 (by decide)
  obtain ⟨du, M5, N5, hd, d1, d2, d3⟩ := due_ok h h24 (nI c) (nI t) (if N 41 0 0 (100 + 24 * c + 6) < 0 then 0 else N 41 0 0 (100 + 24 * c + 6))
  have h5 := h.scr d3
  have e5 := d3.row
  have hday : isN (N 41 0 0 6) 3001 := ⟨cn (N 41 0 0) 6, by omega, h.c.n6⟩
  have hdiv : cn (N 41 0 0) 6 / 30 ≤ 100 := by omega
  generalize hW : cn (N 41 0 0) 6 / 30 = W at *
  -- what comes out
  obtain ⟨a, ha⟩ : ∃ a, a = min L (o + du) := ⟨_, rfl⟩
  obtain ⟨s, hs⟩ : ∃ s, s = min tc (o + du - a) := ⟨_, rfl⟩
  obtain ⟨since, hsi⟩ : ∃ x : Int32, x = if o + du - a - s = 0 then -1 else if o = 0 then N 41 0 0 6 else N 41 0 0 (1056 + 14 * b + 9) := ⟨_, rfl⟩
  -- the reference
  have hK : ∃ N', mK_month (nI b) N = some N' ∧ N' 41 0 0 (1056 + 14 * b + 8) = nI (o + du - a - s) ∧ N' 41 0 0 (1056 + 14 * b + 9) = since ∧ N' 41 0 0 (1056 + 14 * b + 10) = nI (L - a) ∧ N' 41 0 0 (20 + 4 * t) = nI (tc - s) ∧ N' 41 0 0 (100 + 24 * c) = N 41 0 0 (100 + 24 * c) + nI s ∧ ∀ r w' i k, ¬ (r = 41 ∧ w' = 0 ∧ i = 0 ∧ (k = 1056 + 14 * b + 8 ∨ k = 1056 + 14 * b + 9 ∨ k = 1056 + 14 * b + 10 ∨ k = 20 + 4 * t ∨ k = 100 + 24 * c)) → N' r w' i k = N5 r w' i k := by
    have e1 : mK_month (nI b) N = mK_month_108 (nI b) (nI c) (nI t) (nI du) N5 := by
      unfold mK_month mK_monthb
      simp only [K_bond_1 h24, K_bond_5 h24, K_inForce_eq h, ec, et, K_own_6 c5, Option.bind_some]
      rw [← d2]
      split <;> rfl
    rw [e1, K_month_108 h24 (o := o) (L := L) (by rw [e5]; exact eo) (by rw [e5]; exact eL) (by omega) (by omega), ← ha]
    obtain ⟨N1, hN1⟩ : ∃ N1, N1 = (if o = 0 then up N5 41 0 0 (1056 + 14 * b + 9) (N5 41 0 0 6) else N5) := ⟨_, rfl⟩
    rw [← hN1]
    have x9 : N1 41 0 0 (1056 + 14 * b + 9) = if o = 0 then N 41 0 0 6 else N 41 0 0 (1056 + 14 * b + 9) := by
      rw [hN1]
      by_cases z : o = 0
      · rw [if_pos z, if_pos z, up_eq, e5]
      · rw [if_neg z, if_neg z, e5]
    have xo : ∀ r w' i k, ¬ (r = 41 ∧ w' = 0 ∧ i = 0 ∧ k = 1056 + 14 * b + 9) → N1 r w' i k = N5 r w' i k := by
      intro r w' i k q
      rw [hN1]
      by_cases z : o = 0
      · rw [if_pos z, up_ne q]
      · rw [if_neg z]
    obtain ⟨N', k1, k2, k3, k4, k5, k6, k7⟩ := K_month_185 (N := up N1 41 0 0 (1056 + 14 * b + 8) (nI (o + du))) (L := L) (o := o + du) (tc := tc) (a := a) (cc := N 41 0 0 (100 + 24 * c)) h24 c5 t8 (by rw [up_ne (by omega), xo _ _ _ _ (by omega), e5]; exact eL) up_eq (by rw [up_ne (by omega), xo _ _ _ _ (by omega), e5]; exact etc) (by rw [up_ne (by omega), xo _ _ _ _ (by omega), e5]) (by omega) (by omega) (by omega) (by omega)
    rw [← hs] at k2 k3 k5 k6
    refine ⟨N', k1, k2, ?_, k4, k5, k6, fun r w' i k q => ?_⟩
    · rw [k3, up_ne (by omega), x9, hsi]
    · rw [k7 r w' i k q, up_ne (by omega), xo _ _ _ _ (by omega)]
  -- the class
  have hC : ∃ M', mW_settle w w b M = some M' ∧ M' 15 w b 8 = nI (o + du - a - s) ∧ M' 15 w b 9 = since ∧ M' 15 w b 10 = nI (L - a) ∧ M' 3 w t 0 = nI (tc - s) ∧ M' 6 w c 0 = N 41 0 0 (100 + 24 * c) + nI s ∧ ∀ r w' i k, ¬ (w' = w ∧ ((r = 15 ∧ i = b ∧ (k = 8 ∨ k = 9 ∨ k = 10)) ∨ (r = 3 ∧ i = t ∧ k = 0) ∨ (r = 6 ∧ i = c ∧ k = 0))) → M' r w' i k = M5 r w' i k := by
    unfold mW_settle
    rw [B_isContract_eq, q10]
    simp only [B_has_eq, h.c.e6, Option.bind_some, bI_ite, q1 1 (by decide), q1 2 (by decide), q1 3 (by decide), q1 4 (by decide), q1 8 (by decide), ec, ixx_nI c5 (show 5 < 2 ^ 31 by decide), a8, pos_c]
    have hk' : N 41 0 0 (1056 + 14 * b) = 1 ∨ N 41 0 0 (1056 + 14 * b) = 2 := hk
    rw [if_pos hk', if_pos hin, d1]
    simp only [Option.bind_some, eo, nI_add]
    have m10 : ∀ v, up M5 15 w b 8 v 15 w b 10 = nI L := fun v => by rw [up_ne (by omega), d3.1 15 w b 10 (by omega), q1 10 (by decide), eL]
    simp only [m10, up_eq]
    rw [minI (show L < 2 ^ 31 by omega) (show o + du < 2 ^ 31 by omega), ← ha, pk_sub (show a ≤ L by omega)]
    have m8 : ∀ u v, up (up M5 15 w b 8 u) 15 w b 10 v 15 w b 8 = u := fun u v => by rw [up_ne (by omega), up_eq]
    simp only [m8, pk_sub (show a ≤ o + du by omega)]
    generalize hM9 : up (up (up M5 15 w b 8 (nI (o + du))) 15 w b 10 (nI (L - a))) 15 w b 8 (nI (o + du - a)) = M9
    have x8 : M9 15 w b 8 = nI (o + du - a) := by rw [← hM9, up_eq]
    have x10 : M9 15 w b 10 = nI (L - a) := by rw [← hM9, up_ne (by omega), up_eq]
    have xo : ∀ r w' i k, ¬ (r = 15 ∧ w' = w ∧ i = b ∧ (k = 8 ∨ k = 10)) → M9 r w' i k = M5 r w' i k := fun r w' i k q => by rw [← hM9, up_ne (by omega), up_ne (by omega), up_ne (by omega)]
    have x5 : M9 15 w b 5 = nI t := by rw [xo _ _ _ _ (by omega), d3.1 15 w b 5 (by omega), q1 5 (by decide), et]
    have x1 : M9 15 w b 1 = nI c := by rw [xo _ _ _ _ (by omega), d3.1 15 w b 1 (by omega), q1 1 (by decide), ec]
    have xt : M9 3 w t 0 = nI tc := by
      rw [xo _ _ _ _ (by omega), d3.1 3 w t 0 (by omega), ← etc]
      exact t1 0 (by decide)
    have xc : M9 6 w c 0 = N 41 0 0 (100 + 24 * c) := by rw [xo _ _ _ _ (by omega), d3.1 6 w c 0 (by omega), a0]
    have x9 : M9 15 w b 9 = N 41 0 0 (1056 + 14 * b + 9) := by rw [xo _ _ _ _ (by omega), d3.1 15 w b 9 (by omega), q1 9 (by decide)]
    have xd : M9 1 w 0 0 = N 41 0 0 6 := by rw [xo _ _ _ _ (by omega), d3.1 1 w 0 0 (by omega), h.c.e6]
    rw [x5, x1, ixx_nI t8 (by decide), xt, minI (show tc < 2 ^ 31 by omega) (show o + du - a < 2 ^ 31 by omega), ← hs, W_coin_eq t8 c5, xt, xc, pk_sub (show s ≤ tc by omega)]
    simp only [Option.bind_some]
    generalize hG : up (up M9 3 w t 0 (nI (tc - s))) 6 w c 0 (N 41 0 0 (100 + 24 * c) + nI s) = G
    have g8 : G 15 w b 8 = nI (o + du - a) := by rw [← hG, upR (by decide), upR (by decide), x8]
    rw [g8, pk_sub (show s ≤ o + du - a by omega)]
    generalize hH : up G 15 w b 8 (nI (o + du - a - s)) = H
    have y8 : H 15 w b 8 = nI (o + du - a - s) := by rw [← hH, up_eq]
    have y9 : H 15 w b 9 = N 41 0 0 (1056 + 14 * b + 9) := by rw [← hH, up_ne (by omega), ← hG, upR (by decide), upR (by decide), x9]
    have yd : H 1 w 0 0 = N 41 0 0 6 := by rw [← hH, up_ne (by omega), ← hG, upR (by decide), upR (by decide), xd]
    have y10 : H 15 w b 10 = nI (L - a) := by rw [← hH, up_ne (by omega), ← hG, upR (by decide), upR (by decide), x10]
    have yt : H 3 w t 0 = nI (tc - s) := by rw [← hH, upR (by decide), ← hG, upR (by decide), up_eq]
    have yc : H 6 w c 0 = N 41 0 0 (100 + 24 * c) + nI s := by rw [← hH, upR (by decide), ← hG, up_eq]
    have yo : ∀ r w' i k, ¬ (w' = w ∧ ((r = 15 ∧ i = b ∧ (k = 8 ∨ k = 10)) ∨ (r = 3 ∧ i = t ∧ k = 0) ∨ (r = 6 ∧ i = c ∧ k = 0))) → H r w' i k = M5 r w' i k := fun r w' i k q => by rw [← hH, up_ne (by omega), ← hG, up_ne (by omega), up_ne (by omega), xo _ _ _ _ (by omega)]
    rw [y9, yd]
    have cl : ∀ v : Int32, v = since → ∃ M', some (up H 15 w b 9 v) = some M' ∧ M' 15 w b 8 = nI (o + du - a - s) ∧ M' 15 w b 9 = since ∧ M' 15 w b 10 = nI (L - a) ∧ M' 3 w t 0 = nI (tc - s) ∧ M' 6 w c 0 = N 41 0 0 (100 + 24 * c) + nI s ∧ ∀ r w' i k, ¬ (w' = w ∧ ((r = 15 ∧ i = b ∧ (k = 8 ∨ k = 9 ∨ k = 10)) ∨ (r = 3 ∧ i = t ∧ k = 0) ∨ (r = 6 ∧ i = c ∧ k = 0))) → M' r w' i k = M5 r w' i k := by
      intro v ev
      refine ⟨_, rfl, ?_, ?_, ?_, ?_, ?_, fun r w' i k q => ?_⟩
      · rw [up_ne (by omega), y8]
      · rw [up_eq, ev]
      · rw [up_ne (by omega), y10]
      · rw [upR (by decide), yt]
      · rw [upR (by decide), yc]
      · rw [up_ne (by omega), yo _ _ _ _ (by omega)]
    by_cases z : o + du - a - s = 0
    · rw [if_pos (by rw [z]; rfl)]
      refine cl (-1) ?_
      rw [hsi, if_pos z]
    · rw [if_neg (nI_nz (by omega) z)]
      rw [if_neg z] at hsi
      by_cases z2 : o = 0
      · have e9 : N 41 0 0 (1056 + 14 * b + 9) = -1 := by
          rcases q7 with q | q
          · exact q.2
          · exact absurd (by rw [eo, z2]; rfl) q.1
        rw [e9, if_pos (by decide)]
        refine cl _ ?_
        rw [hsi, if_pos z2]
      · have h9 : ¬ N 41 0 0 (1056 + 14 * b + 9) < 0 := by
          rcases q7 with q | q
          · rw [eo] at q
            exact absurd q.1 (nI_nz (by omega) z2)
          · exact q.2.ge (by decide)
        rw [if_neg h9]
        rw [if_neg z2] at hsi
        refine ⟨H, rfl, y8, by rw [y9, hsi], y10, yt, yc, fun r w' i k q => yo r w' i k (by omega)⟩
  obtain ⟨N', k1, k2, k3, k4, k5, k6, k7⟩ := hK
  obtain ⟨M', m1, m2, m3, m4, m5, m6, m7⟩ := hC
  refine ⟨M', N', m1, k1, ?_, ⟨fun r w' i k q => ?_, fun r w' i k q2 q3 q4 => ?_⟩, fun k q => ?_⟩
  · refine h5.paid (b := b) (c := c) (t := t) (M' := M') (N' := N') (owed := nI (o + du - a - s)) (since := since) (left := nI (L - a)) (tc := nI (tc - s)) (cc := N 41 0 0 (100 + 24 * c) + nI s) (by rw [e5]; exact hb) (by rw [e5]; exact hc) (by rw [e5]; exact ht) m2 m3 m4 m5 m6 m7 k2 k3 k4 k5 k6 k7 ?_ ?_ ⟨L - a, by omega, rfl⟩ ⟨tc - s, by omega, rfl⟩
    · rw [e5, hW]
      exact ⟨o + du - a - s, by omega, rfl⟩
    · by_cases z : o + du - a - s = 0
      · left
        rw [if_pos z] at hsi
        exact ⟨by rw [z]; rfl, hsi⟩
      · right
        rw [if_neg z] at hsi
        refine ⟨nI_nz (by omega) z, ?_⟩
        by_cases z2 : o = 0
        · rw [if_pos z2] at hsi
          rw [hsi]
          exact hday
        · rw [if_neg z2] at hsi
          rw [hsi]
          rcases q7 with q | q
          · rw [eo] at q
            exact absurd q.1 (nI_nz (by omega) z2)
          · exact q.2
  · rw [m7 r w' i k (by omega), d3.1 r w' i k (by omega)]
  · rw [k7 r w' i k (by omega), d3.2 r w' i k q3 q4]
  · rw [k7 41 0 0 k (by omega), e5]
