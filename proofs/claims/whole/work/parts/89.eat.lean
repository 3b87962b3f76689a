/-! ===== bread ===== -/
/-- what is left of hunger -/
def hgr (n e : Nat) (old : Int32) : Int32 := if n ≤ e then 0 else old + 1
theorem K_eats_132 {c : Nat} (c5 : c < 5) (v : Int32) (N : Mem) : mK_eats_132 (nI c) v 5 (nI c) N = mAil c (up N 41 0 0 (100 + 24 * c + 5) v) := by
  unfold mK_eats_132 mK_eats_132b
  rw [K_sets_5 c5]
  rfl
theorem K_eats_78m {c n x b : Nat} {N : Mem} (c5 : c < 5) (eb : N 41 0 0 (100 + 24 * c + 1) = nI b) (hx : x ≤ b) (hn : n < 2 ^ 31) (hx2 : x < 2 ^ 31) {v : Int32} (hv : v < 0) : mK_eats_78 (nI c) (nI n) (nI x) v 0 N = mAil c (up (up N 41 0 0 (100 + 24 * c + 1) (nI (b - x))) 41 0 0 (100 + 24 * c + 5) (hgr n x (N 41 0 0 (100 + 24 * c + 5)))) := by
  unfold mK_eats_78 mK_eats_78b
  simp only [K_own_1 c5, K_sets_1 c5, K_own_5 c5, K_eats_132 c5, Option.bind_some, eb, pk_sub hx, Int32.add_zero]
  rw [if_pos hv]
  unfold hgr
  by_cases z : n ≤ x
  · rw [if_neg (nI_nlt z hx2), if_pos z]
  · rw [if_pos (nI_lt (by omega) hn), if_neg z, up_ne (by omega)]
theorem K_eats_78t {c n x b t y tb : Nat} {N : Mem} (c5 : c < 5) (t8 : t < 8) (eb : N 41 0 0 (100 + 24 * c + 1) = nI b) (et : N 41 0 0 (20 + 4 * t + 1) = nI tb) (hx : x ≤ b) (hy : y ≤ tb) (hn : n < 2 ^ 31) (hx2 : x + y < 2 ^ 31) : mK_eats_78 (nI c) (nI n) (nI x) (nI t) (nI y) N = mAil c (up (up (up N 41 0 0 (100 + 24 * c + 1) (nI (b - x))) 41 0 0 (20 + 4 * t + 1) (nI (tb - y))) 41 0 0 (100 + 24 * c + 5) (hgr n (x + y) (N 41 0 0 (100 + 24 * c + 5)))) := by
  unfold mK_eats_78 mK_eats_78b
  simp only [K_own_1 c5, K_sets_1 c5, K_own_5 c5, K_eats_132 c5, K_townGets_1 t8, Option.bind_some, eb, pk_sub hx]
  have e1 : up N 41 0 0 (100 + 24 * c + 1) (nI (b - x)) 41 0 0 (20 + 4 * t + 1) + -nI y = nI (tb - y) := by
    rw [up_ne (by omega), et, ← Int32.sub_eq_add_neg, pk_sub hy]
  rw [if_neg (nI_pos (by omega)), e1, nI_add]
  unfold hgr
  by_cases z : n ≤ x + y
  · rw [if_neg (nI_nlt z hx2), if_pos z]
  · rw [if_pos (nI_lt (by omega) hn), if_neg z, up_ne (by omega), up_ne (by omega)]
theorem eat_ok {B w c : Nat} {M N : Mem} (h : RW B M w (N 41 0 0)) (hB : B < 10001) (hc : c < cn (N 41 0 0) 2) : ∃ M' N', mW_eat w w c M = some M' ∧ mK_eats (nI c) N = mAil c N' ∧ DS B w M N M' N' := by
  have b2 := h.c.b2
  have b3 := h.c.b3
  have b0 := h.c.b0
  have c5 : c < 5 := by omega
  obtain ⟨⟨a0, a1, a2, a3, a8, a9, a11⟩, h2, h3, h4, ⟨b, hb, eb⟩, h6, h7, h8⟩ := h.p c hc
  obtain ⟨f6, f7⟩ := h.f c hc
  have l0 : cL (N 41 0 0) c 0 ≤ cn (N 41 0 0) 3 := fb_ct_le _ _
  have l1 : cL (N 41 0 0) c 1 ≤ cn (N 41 0 0) 3 := fb_ct_le _ _
  obtain ⟨n, hn, en⟩ : ∃ n, n ≤ 80 ∧ nI (cL (N 41 0 0) c 0) + nI (cL (N 41 0 0) c 1) = nI n := ⟨_, by omega, nI_add _ _⟩
  unfold mW_eat mK_eats mK_eatsb
  simp only [K_manySo_0 h, K_manySo_1 h, K_own_1 c5, K_own_2 c5, Option.bind_some, a1, f6, f7, en, eb, minI (show b < 2 ^ 31 by omega) (show n < 2 ^ 31 by omega), C_marches_eq, bI_ite, pk_sub (Nat.min_le_left b n), pk_sub (Nat.min_le_right b n)]
  have e63 : up M 6 w c 1 (nI (b - min b n)) 6 w c 3 = N 41 0 0 (100 + 24 * c + 2) := by rw [up_ne (by omega), a3]
  rw [e63]
  by_cases zm : N 41 0 0 (100 + 24 * c + 2) < 0
  · -- on the road
    rw [if_pos zm]
    refine ⟨up (up M 6 w c 1 (nI (b - min b n))) 6 w c 2 (hgr n (min b n) (N 41 0 0 (100 + 24 * c + 5))), up (up N 41 0 0 (100 + 24 * c + 1) (nI (b - min b n))) 41 0 0 (100 + 24 * c + 5) (hgr n (min b n) (N 41 0 0 (100 + 24 * c + 5))), ?_, ?_, ?_, ⟨fun r w' i k q => by rw [up_ne (by omega), up_ne (by omega)], fun r w' i k q _ _ => by rw [upR q, upR q]⟩, fun k q => by rw [up_ne (by omega), up_ne (by omega)]⟩
    · unfold hgr
      by_cases z : n ≤ min b n
      · rw [if_pos z, if_pos (by rw [show n - min b n = 0 by omega]; decide)]
      · rw [if_neg z, if_neg (fun q => z (by have := (nI_leI (b := 0) (by omega) (by decide)).mp q; omega)), up_ne (by omega), a2]
    · by_cases zb : b < n
      · rw [if_pos (nI_lt zb (by omega)), if_pos zm, K_eats_78m c5 eb (Nat.le_refl b) (by omega) (by omega) zm, Nat.min_eq_left (by omega)]
      · rw [if_neg (nI_nlt (by omega) (by omega)), if_pos zm, K_eats_78m c5 eb (show n ≤ b by omega) (by omega) (by omega) zm, Nat.min_eq_right (by omega)]
    · rw [up_row, up_row]
      have r1 := h.compBread (Nat.le_refl B) hc (v := nI (b - min b n)) ⟨b - min b n, by omega, rfl⟩
      exact r1.compHunger (Nat.le_refl B) (by rw [cn_same (pk_un (by omega))]; exact hc)
  · -- in a town
    obtain ⟨t, ht, et⟩ : isN (N 41 0 0 (100 + 24 * c + 2)) (cn (N 41 0 0) 0) := by
      rcases h6 with q | q
      · exact q
      · rw [q.1] at zm
        exact absurd (by decide) zm
    have t8 : t < 8 := by omega
    obtain ⟨t1, t2, tb, htb, etb⟩ := h.t t ht
    rw [if_neg zm, et, ixx_nI t8 (by decide)]
    have e31 : up M 6 w c 1 (nI (b - min b n)) 3 w t 1 = nI tb := by rw [upR (by decide), t1 1 (by decide), etb]
    have em := minI (a := tb) (b := n - min b n) (by omega) (by omega)
    simp only [e31, em, pk_sub (Nat.min_le_left tb (n - min b n)), pk_sub (Nat.min_le_right tb (n - min b n)), K_ofTown_1 t8, Option.bind_some, etb]
    generalize hy : min tb (n - min b n) = y at *
    have y1 : y ≤ tb := by omega
    have y2 : y ≤ n - min b n := by omega
    refine ⟨up (up (up M 6 w c 1 (nI (b - min b n))) 3 w t 1 (nI (tb - y))) 6 w c 2 (hgr n (min b n + y) (N 41 0 0 (100 + 24 * c + 5))), up (up (up N 41 0 0 (100 + 24 * c + 1) (nI (b - min b n))) 41 0 0 (20 + 4 * t + 1) (nI (tb - y))) 41 0 0 (100 + 24 * c + 5) (hgr n (min b n + y) (N 41 0 0 (100 + 24 * c + 5))), ?_, ?_, ?_, ⟨fun r w' i k q => by rw [up_ne (by omega), up_ne (by omega), up_ne (by omega)], fun r w' i k q _ _ => by rw [upR q, upR q, upR q]⟩, fun k q => by rw [up_ne (by omega), up_ne (by omega), up_ne (by omega)]⟩
    · unfold hgr
      by_cases z : n ≤ min b n + y
      · rw [if_pos z, if_pos (by rw [show n - min b n - y = 0 by omega]; decide)]
      · rw [if_neg z, if_neg (fun q => z (by have := (nI_leI (b := 0) (by omega) (by decide)).mp q; omega)), up_ne (by omega), up_ne (by omega), a2]
    · by_cases zb : b < n
      · have emin : min b n = b := Nat.min_eq_left (by omega)
        rw [emin] at hy y2 ⊢
        rw [if_pos (nI_lt zb (by omega)), if_neg (nI_pos (by omega)), pk_sub (show b ≤ n by omega)]
        by_cases zt : tb < n - b
        · obtain rfl : y = tb := by omega
          rw [if_pos (nI_lt zt (by omega)), K_eats_78t c5 t8 eb etb (Nat.le_refl b) (Nat.le_refl y) (by omega) (by omega)]
        · obtain rfl : y = n - b := by omega
          rw [if_neg (nI_nlt (by omega) (by omega)), K_eats_78t c5 t8 eb etb (Nat.le_refl b) y1 (by omega) (by omega)]
      · have emin : min b n = n := Nat.min_eq_right (by omega)
        rw [emin] at hy y2 ⊢
        obtain rfl : y = 0 := by omega
        rw [if_neg (nI_nlt (by omega) (by omega)), if_neg (nI_pos (by omega)), pk_sub (Nat.le_refl n), Nat.sub_self, if_neg (nI_nlt (Nat.zero_le _) (by omega)), K_eats_78t c5 t8 eb etb (show n ≤ b by omega) (Nat.zero_le _) (by omega) (by omega)]
    · rw [up_row, up_row, up_row]
      have r1 := h.compBread (Nat.le_refl B) hc (v := nI (b - min b n)) ⟨b - min b n, by omega, rfl⟩
      have r2 := r1.town (t := t) (k := 1) (v := nI (tb - y)) (Nat.le_refl B) (by rw [cn_same (pk_un (by omega))]; exact ht) (by decide) (by omega) (fun _ => ⟨tb - y, by omega, rfl⟩)
      exact r2.compHunger (Nat.le_refl B) (by rw [cn_same (pk_un (by omega)), cn_same (pk_un (by omega))]; exact hc)
theorem eat_loop {B w : Nat} (hB : B < 10001) (r2 : Int32 → Int32 → Mem → Option Mem) (x1 x2 : Int32) : ∀ (d i n m : Nat) (M N : Mem), RW B M w (N 41 0 0) → i + d = cn (N 41 0 0) 2 → d < n → d < m → ∃ M' N', mW_endDay_41 n w (nI i) M = mW_endDay_72 fuel w 0 M' ∧ mK_run_75 r2 m x1 x2 (nI i) N = mK_run_98 r2 fuel x1 x2 0 N' ∧ DS B w M N M' N'
  | 0, i, n, m, M, N, h, hi, hn, hm => by
    obtain ⟨n, rfl⟩ : ∃ k, n = k + 1 := ⟨n - 1, by omega⟩
    obtain ⟨m, rfl⟩ : ∃ k, m = k + 1 := ⟨m - 1, by omega⟩
    have b2 := h.c.b2
    refine ⟨M, N, ?_, ?_, h, DF.rf, KB.rf⟩
    · show mW_endDay_41b (mW_endDay_41 n) (mW_endDay_72 fuel) w (nI i) M = _
      unfold mW_endDay_41b
      rw [h.c.e2, h.c.n2, if_neg (nI_nlt (by omega) (by omega))]
    · show mK_run_75b (mK_run_75 r2 m) (mK_run_98 r2 fuel) x1 x2 (nI i) N = _
      unfold mK_run_75b
      rw [h.c.n2, if_neg (nI_nlt (by omega) (by omega))]
  | d + 1, i, n, m, M, N, h, hi, hn, hm => by
    obtain ⟨n, rfl⟩ : ∃ k, n = k + 1 := ⟨n - 1, by omega⟩
    obtain ⟨m, rfl⟩ : ∃ k, m = k + 1 := ⟨m - 1, by omega⟩
    have b2 := h.c.b2
    have i5 : i < 5 := by omega
    obtain ⟨M1, N1, c1, c2, c3⟩ := eat_ok h hB (c := i) (by omega)
    obtain ⟨M2, N2, d1, d2, d3⟩ := ail_ok c3.1 (c := i) (by rw [cn_same (c3.2.2 2 (by omega))]; omega)
    have g := c3.tr d3
    obtain ⟨M3, N3, e1, e2, e3⟩ := eat_loop hB r2 x1 x2 d (i + 1) n m M2 N2 g.1 (by rw [cn_same (g.2.2 2 (by omega))]; omega) (by omega) (by omega)
    refine ⟨M3, N3, ?_, ?_, g.tr e3⟩
    · show mW_endDay_41b (mW_endDay_41 n) (mW_endDay_72 fuel) w (nI i) M = _
      unfold mW_endDay_41b
      rw [h.c.e2, h.c.n2, if_pos (nI_lt (by omega) (by omega)), ixx_nI i5 (by decide), c1]
      simp only [Option.bind_some, d1, nI_1, e1]
    · show mK_run_75b (mK_run_75 r2 m) (mK_run_98 r2 fuel) x1 x2 (nI i) N = _
      unfold mK_run_75b
      rw [h.c.n2, if_pos (nI_lt (by omega) (by omega)), c2, d2]
      simp only [Option.bind_some, nI_1, e2]
