/-! ===== a day: who arrives, who eats, who ails ===== -/
def DF (w : Nat) (M N M' N' : Mem) : Prop := (∀ r w' i k, r = 0 ∨ 18 ≤ r ∨ w' ≠ w → M' r w' i k = M r w' i k) ∧ ∀ r w' i k, r ≠ 41 → r ≠ 49 → r ≠ 50 → N' r w' i k = N r w' i k
theorem DF.rf {w : Nat} {M N : Mem} : DF w M N M N := ⟨fun _ _ _ _ _ => rfl, fun _ _ _ _ _ _ _ => rfl⟩
theorem DF.tr {w : Nat} {M N M1 N1 M2 N2 : Mem} (h : DF w M N M1 N1) (g : DF w M1 N1 M2 N2) : DF w M N M2 N2 := ⟨fun r w' i k q => (g.1 r w' i k q).trans (h.1 r w' i k q), fun r w' i k q1 q2 q3 => (g.2 r w' i k q1 q2 q3).trans (h.2 r w' i k q1 q2 q3)⟩
theorem sWV.df {w : Nat} {M N M1 N1 : Mem} (h : sWV w M N M1 N1) : DF w M N M1 N1 := ⟨fun r w' i k q => h.1 r w' i k (by omega), fun r w' i k _ q2 q3 => h.2 r w' i k q2 q3⟩
/-- counts and bonds stay -/
def KB (N N' : Mem) : Prop := ∀ k, k < 9 ∨ 1056 ≤ k → N' 41 0 0 k = N 41 0 0 k
theorem KB.rf {N : Mem} : KB N N := fun _ _ => rfl
theorem KB.tr {N N1 N2 : Mem} (h : KB N N1) (g : KB N1 N2) : KB N N2 := fun k q => (g k q).trans (h k q)
/-- one step of a day -/
def DS (B w : Nat) (M N M' N' : Mem) : Prop := RW B M' w (N' 41 0 0) ∧ DF w M N M' N' ∧ KB N N'
theorem DS.tr {B w : Nat} {M N M1 N1 M2 N2 : Mem} (h : DS B w M N M1 N1) (g : DS B w M1 N1 M2 N2) : DS B w M N M2 N2 := ⟨g.1, h.2.1.tr g.2.1, h.2.2.tr g.2.2⟩
theorem minI {a b : Nat} (ha : a < 2 ^ 31) (hb : b < 2 ^ 31) : (if nI a < nI b then nI a else nI b) = nI (min a b) := by
  by_cases z : a < b
  · rw [if_pos (nI_lt z hb), Nat.min_eq_left (by omega)]
  · rw [if_neg (nI_nlt (by omega) ha), Nat.min_eq_right (by omega)]
theorem arrive_loop {B w : Nat} (r2 : Int32 → Int32 → Mem → Option Mem) (x1 x2 : Int32) : ∀ (d i n m : Nat) (M N : Mem), RW B M w (N 41 0 0) → i + d = cn (N 41 0 0) 2 → d < n → d < m → ∃ M' N', mW_endDay_12 n w (nI i) M = mW_endDay_41 fuel w 0 M' ∧ mK_run_20 r2 m x1 x2 (nI i) N = mK_run_75 r2 fuel x1 x2 0 N' ∧ DS B w M N M' N'
  | 0, i, n, m, M, N, h, hi, hn, hm => by
    obtain ⟨n, rfl⟩ : ∃ k, n = k + 1 := ⟨n - 1, by omega⟩
    obtain ⟨m, rfl⟩ : ∃ k, m = k + 1 := ⟨m - 1, by omega⟩
    have b2 := h.c.b2
    refine ⟨M, N, ?_, ?_, h, DF.rf, KB.rf⟩
    · show mW_endDay_12b (mW_endDay_12 n) (mW_endDay_41 fuel) w (nI i) M = _
      unfold mW_endDay_12b
      rw [h.c.e2, h.c.n2, if_neg (nI_nlt (by omega) (by omega))]
    · show mK_run_20b (mK_run_20 r2 m) (mK_run_75 r2 fuel) x1 x2 (nI i) N = _
      unfold mK_run_20b
      rw [h.c.n2, if_neg (nI_nlt (by omega) (by omega))]
  | d + 1, i, n, m, M, N, h, hi, hn, hm => by
    obtain ⟨n, rfl⟩ : ∃ k, n = k + 1 := ⟨n - 1, by omega⟩
    obtain ⟨m, rfl⟩ : ∃ k, m = k + 1 := ⟨m - 1, by omega⟩
    have b2 := h.c.b2
    have i5 : i < 5 := by omega
    have hi2 : i < cn (N 41 0 0) 2 := by omega
    obtain ⟨⟨a0, a1, a2, a3, a8, a9, a11⟩, h2, h3, h4, h5, h6, h7, h8⟩ := h.p i hi2
    have key : ∀ M' N', DS B w M N M' N' → ∃ M2 N2, mW_endDay_12 n w (nI (i + 1)) M' = mW_endDay_41 fuel w 0 M2 ∧ mK_run_20 r2 m x1 x2 (nI (i + 1)) N' = mK_run_75 r2 fuel x1 x2 0 N2 ∧ DS B w M N M2 N2 := by
      intro M' N' g
      obtain ⟨M2, N2, c1, c2, c3⟩ := arrive_loop r2 x1 x2 d (i + 1) n m M' N' g.1 (by rw [cn_same (g.2.2 2 (by omega))]; omega) (by omega) (by omega)
      exact ⟨M2, N2, c1, c2, g.tr c3⟩
    show ∃ M' N', mW_endDay_12b (mW_endDay_12 n) (mW_endDay_41 fuel) w (nI i) M = _ ∧ mK_run_20b (mK_run_20 r2 m) (mK_run_75 r2 fuel) x1 x2 (nI i) N = _ ∧ _
    unfold mW_endDay_12b mK_run_20b mC_arriveOn
    rw [h.c.e2, h.c.n2, if_pos (nI_lt (by omega) (by omega)), if_pos (nI_lt (by omega) (by omega)), ixx_nI i5 (by decide)]
    simp only [C_marches_eq, h.c.e6, K_own_2 i5, K_own_3 i5, K_own_4 i5, K_sets_2 i5, Option.bind_some, nI_1, bI_ite, a3]
    by_cases z : N 41 0 0 (100 + 24 * i + 2) < 0
    · rw [if_pos z, if_pos z, (h2 z).1, (h2 z).2]
      by_cases z2 : N 41 0 0 (100 + 24 * i + 4) = N 41 0 0 6
      · rw [if_pos z2, if_pos z2]
        simp only [Option.bind_some]
        refine key _ _ ⟨?_, ⟨fun r w' i' k q => up_ne (by omega), fun r w' i' k q _ _ => upR q⟩, fun k q => up_ne (by omega)⟩
        rw [up_row]
        refine h.compTown (Nat.le_refl _) hi2 ?_
        rcases h6 with q | q
        · exact absurd z (q.ge (by have := h.c.b0; omega))
        · exact q.2
      · rw [if_neg z2, if_neg z2]
        exact key M N ⟨h, DF.rf, KB.rf⟩
    · rw [if_neg z, if_neg z]
      exact key M N ⟨h, DF.rf, KB.rf⟩
/-- the least lance turns -/
theorem turn_loop {B w c x y : Nat} {M N : Mem} (h : RW B M w (N 41 0 0)) (c5 : c < 5) (hy : y < 4) : ∀ (d i n m : Nat), i + d = cn (N 41 0 0) 3 → d < n → d < m → ∃ M' N', mW_turnLeast_3 n w (nI c) (nI x) (nI y) (nI i) M = some M' ∧ mK_changes_3 m (nI c) (nI x) (nI y) (nI i) N = some N' ∧ DS B w M N M' N'
  | 0, i, n, m, hi, hn, hm => by
    obtain ⟨n, rfl⟩ : ∃ k, n = k + 1 := ⟨n - 1, by omega⟩
    obtain ⟨m, rfl⟩ : ∃ k, m = k + 1 := ⟨m - 1, by omega⟩
    have b3 := h.c.b3
    refine ⟨M, N, ?_, ?_, h, DF.rf, KB.rf⟩
    · show mW_turnLeast_3b (mW_turnLeast_3 n) w (nI c) (nI x) (nI y) (nI i) M = _
      unfold mW_turnLeast_3b
      rw [h.c.e3, h.c.n3, if_neg (nI_nlt (by omega) (by omega))]
    · show mK_changes_3b (mK_changes_3 m) (nI c) (nI x) (nI y) (nI i) N = _
      unfold mK_changes_3b
      rw [h.c.n3, if_neg (nI_nlt (by omega) (by omega))]
  | d + 1, i, n, m, hi, hn, hm => by
    obtain ⟨n, rfl⟩ : ∃ k, n = k + 1 := ⟨n - 1, by omega⟩
    obtain ⟨m, rfl⟩ : ∃ k, m = k + 1 := ⟨m - 1, by omega⟩
    have b3 := h.c.b3
    have i40 : i < 40 := by omega
    have ih := turn_loop (x := x) (y := y) h c5 hy d (i + 1) n m (by omega) (by omega) (by omega)
    obtain ⟨q1, q2, q3, q4⟩ := h.l i (by omega)
    have q10 : M 10 w i 0 = N 41 0 0 (220 + 5 * i) := q1 0 (by decide)
    show ∃ M' N', mW_turnLeast_3b (mW_turnLeast_3 n) w (nI c) (nI x) (nI y) (nI i) M = _ ∧ mK_changes_3b (mK_changes_3 m) (nI c) (nI x) (nI y) (nI i) N = _ ∧ _
    unfold mW_turnLeast_3b mK_changes_3b
    rw [h.c.e3, h.c.n3, if_pos (nI_lt (by omega) (by omega)), if_pos (nI_lt (by omega) (by omega))]
    simp only [ixx_nI i40 (show 40 < 2 ^ 31 by decide), K_its_0 i40, K_its_3 i40, K_turns_eq i40, Option.bind_some, nI_1, q10, q1 3 (by decide)]
    by_cases z1 : N 41 0 0 (220 + 5 * i) = nI c
    · rw [if_pos z1, if_pos z1]
      by_cases z2 : N 41 0 0 (220 + 5 * i + 3) = nI x
      · rw [if_pos z2, if_pos z2, W_become_eq c5 (q10.trans z1), q1 3 (by decide)]
        simp only [Option.bind_some]
        refine ⟨_, _, rfl, rfl, ?_, ⟨fun r w' i' k q => lB_o (by omega), fun r w' i' k q _ _ => upR q⟩, fun k q => up_ne (by omega)⟩
        rw [up_row]
        exact h.become (Nat.le_refl _) (by omega) c5 z1 ⟨y, hy, rfl⟩
      · rw [if_neg z2, if_neg z2]
        exact ih
    · rw [if_neg z1, if_neg z1]
      exact ih
theorem turn_ok {B w c x y : Nat} {M N : Mem} (h : RW B M w (N 41 0 0)) (c5 : c < 5) (hy : y < 4) : ∃ M' N', mW_turnLeast w (nI c) (nI x) (nI y) M = some M' ∧ mK_changes (nI c) (nI x) (nI y) N = some N' ∧ DS B w M N M' N' := by
  have b3 := h.c.b3
  exact turn_loop h c5 hy (cn (N 41 0 0) 3) 0 fuel fuel (by omega) (by unfold fuel; omega) (by unfold fuel; omega)
theorem K_changes_none {B w c x : Nat} {y : Int32} {M N : Mem} (h : RW B M w (N 41 0 0)) (h0 : ∀ l, l < cn (N 41 0 0) 3 → ¬ (N 41 0 0 (220 + 5 * l) = nI c ∧ N 41 0 0 (220 + 5 * l + 3) = nI x)) : ∀ (d i m : Nat), i + d = cn (N 41 0 0) 3 → d < m → mK_changes_3 m (nI c) (nI x) y (nI i) N = some N
  | 0, i, m, hi, hm => by
    obtain ⟨m, rfl⟩ : ∃ k, m = k + 1 := ⟨m - 1, by omega⟩
    have b3 := h.c.b3
    show mK_changes_3b (mK_changes_3 m) (nI c) (nI x) y (nI i) N = _
    unfold mK_changes_3b
    rw [h.c.n3, if_neg (nI_nlt (by omega) (by omega))]
  | d + 1, i, m, hi, hm => by
    obtain ⟨m, rfl⟩ : ∃ k, m = k + 1 := ⟨m - 1, by omega⟩
    have b3 := h.c.b3
    have i40 : i < 40 := by omega
    have ih := K_changes_none (y := y) h h0 d (i + 1) m (by omega) (by omega)
    show mK_changes_3b (mK_changes_3 m) (nI c) (nI x) y (nI i) N = _
    unfold mK_changes_3b
    rw [h.c.n3, if_pos (nI_lt (by omega) (by omega))]
    simp only [K_its_0 i40, K_its_3 i40, Option.bind_some, nI_1]
    by_cases z1 : N 41 0 0 (220 + 5 * i) = nI c
    · rw [if_pos z1]
      by_cases z2 : N 41 0 0 (220 + 5 * i + 3) = nI x
      · exact absurd ⟨z1, z2⟩ (h0 i (by omega))
      · rw [if_neg z2]
        exact ih
    · rw [if_neg z1]
      exact ih
/-- who ails, by the reference -/
def mAil (c : Nat) (N : Mem) : Option Mem :=
  (mK_own (nI c) 5 N).bind fun q2 =>
  if q2.1 < 6 then
    if q2.1 < 3 then
      if q2.1 = 0 then
        (mK_changes (nI c) 1 0 q2.2).bind fun q3 =>
        some q3
      else
        some q2.2
    else
      (mK_changes (nI c) 0 1 q2.2).bind fun q4 =>
      some q4
  else
    (mK_changes (nI c) 1 3 q2.2).bind fun q5 =>
    some q5
theorem ail_ok {B w c : Nat} {M N : Mem} (h : RW B M w (N 41 0 0)) (hc : c < cn (N 41 0 0) 2) : ∃ M' N', mW_ail w (nI c) M = some M' ∧ mAil c N = some N' ∧ DS B w M N M' N' := by
  have b2 := h.c.b2
  have b3 := h.c.b3
  have c5 : c < 5 := by omega
  obtain ⟨⟨a0, a1, a2, a3, a8, a9, a11⟩, -⟩ := h.p c hc
  obtain ⟨f6, f7⟩ := h.f c hc
  have hle : cL (N 41 0 0) c 1 ≤ cn (N 41 0 0) 3 := fb_ct_le _ _
  have self : DS B w M N M N := ⟨h, DF.rf, KB.rf⟩
  unfold mW_ail mAil
  simp only [ixx_nI c5 (show 5 < 2 ^ 31 by decide), K_own_5 c5, a2, f7, Option.bind_some]
  have st : ∀ (x y : Nat), y < 4 → ∃ M' N', ((mW_turnLeast w (nI c) (nI x) (nI y) M).bind fun q => some q) = some M' ∧ ((mK_changes (nI c) (nI x) (nI y) N).bind fun q => some q) = some N' ∧ DS B w M N M' N' := by
    intro x y hy
    obtain ⟨M', N', t1, t2, t3⟩ := turn_ok (x := x) h c5 hy
    refine ⟨M', N', ?_, ?_, t3⟩
    · rw [t1]; rfl
    · rw [t2]; rfl
  by_cases z6 : N 41 0 0 (100 + 24 * c + 5) < 6
  · rw [if_pos z6, if_pos z6]
    by_cases z3 : N 41 0 0 (100 + 24 * c + 5) < 3
    · rw [if_pos z3, if_pos z3]
      by_cases z0 : N 41 0 0 (100 + 24 * c + 5) = 0
      · rw [if_pos z0, if_pos z0]
        by_cases zl : cL (N 41 0 0) c 1 = 0
        · rw [zl, if_pos (by decide)]
          have e : mK_changes (nI c) 1 0 N = some N := by
            refine K_changes_none (x := 1) (y := 0) h (fun l hl q => ?_) (cn (N 41 0 0) 3) 0 fuel (by omega) (by unfold fuel; omega)
            have := fb_ct_zero.mp zl l hl
            exact absurd q (of_decide_eq_false this)
          rw [e]
          exact ⟨M, N, rfl, rfl, self⟩
        · rw [if_neg (fun q => zl (by have := (nI_leI (b := 0) (by omega) (by decide)).mp q; omega))]
          exact st 1 0 (by decide)
      · rw [if_neg z0, if_neg z0]
        exact ⟨M, N, rfl, rfl, self⟩
    · rw [if_neg z3, if_neg z3]
      exact st 0 1 (by decide)
  · rw [if_neg z6, if_neg z6]
    exact st 1 3 (by decide)
