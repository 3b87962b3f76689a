/-! ===== days ===== -/
def KC (N N' : Mem) : Prop := ∀ k, k < 9 → N' 41 0 0 k = N 41 0 0 k
theorem rem30 {n : Nat} (h : n ≤ 3000) : nI n - nI n / 30 * 30 = nI (n % 30) := pk_rem (d := 30) (by omega) (by decide) (by decide)
theorem month_loop {B w : Nat} (hB : B < 10001) (r2 : Int32 → Int32 → Mem → Option Mem) (x1 x2 : Int32) : ∀ (d i n m : Nat) (M N : Mem), RW B M w (N 41 0 0) → cn (N 41 0 0) 6 % 30 = 0 → 1 ≤ cn (N 41 0 0) 6 / 30 → (∀ b, i ≤ b → b < cn (N 41 0 0) 5 → isN (N 41 0 0 (1056 + 14 * b + 8)) (100000 * (cn (N 41 0 0) 6 / 30) - 99999)) → i + d = cn (N 41 0 0) 5 → d < n → d < m → ∃ M' N', mW_endDay_72 n w (nI i) M = some M' ∧ mK_run_98 r2 m x1 x2 (nI i) N = r2 x1 (x2 + 1) N' ∧ RW B M' w (N' 41 0 0) ∧ DF w M N M' N' ∧ KC N N'
  | 0, i, n, m, M, N, h, h30, h1, hlow, hi, hn, hm => by
    obtain ⟨n, rfl⟩ : ∃ k, n = k + 1 := ⟨n - 1, by omega⟩
    obtain ⟨m, rfl⟩ : ∃ k, m = k + 1 := ⟨m - 1, by omega⟩
    have b5 := h.c.b5
    refine ⟨M, N, ?_, ?_, h, DF.rf, fun _ _ => rfl⟩
    · show mW_endDay_72b (mW_endDay_72 n) w (nI i) M = _
      unfold mW_endDay_72b
      rw [h.c.e5, h.c.n5, if_neg (nI_nlt (by omega) (by omega))]
    · show mK_run_98b r2 (mK_run_98 r2 m) x1 x2 (nI i) N = _
      unfold mK_run_98b
      rw [h.c.n5, if_neg (nI_nlt (by omega) (by omega))]
  | d + 1, i, n, m, M, N, h, h30, h1, hlow, hi, hn, hm => by
    obtain ⟨n, rfl⟩ : ∃ k, n = k + 1 := ⟨n - 1, by omega⟩
    obtain ⟨m, rfl⟩ : ∃ k, m = k + 1 := ⟨m - 1, by omega⟩
    have b5 := h.c.b5
    have b6 := h.c.b6
    have i24 : i < 24 := by omega
    have hib : i < cn (N 41 0 0) 5 := by omega
    have hday : ¬ N 41 0 0 6 < 0 := by rw [h.c.n6]; exact nI_pos (by omega)
    have e30 : N 41 0 0 6 - N 41 0 0 6 / 30 * 30 = 0 := by
      have := rem30 b6
      rw [← h.c.n6, h30] at this
      exact this
    obtain ⟨q1, q2, q3, q4, q5, q6, q7, q8, q9⟩ := h.b i hib
    have q10 : M 15 w i 0 = N 41 0 0 (1056 + 14 * i) := q1 0 (by decide)
    have key : ∀ M' N', RW B M' w (N' 41 0 0) → DF w M N M' N' → KS i N N' → ∃ M2 N2, mW_endDay_72 n w (nI (i + 1)) M' = some M2 ∧ mK_run_98 r2 m x1 x2 (nI (i + 1)) N' = r2 x1 (x2 + 1) N2 ∧ RW B M2 w (N2 41 0 0) ∧ DF w M N M2 N2 ∧ KC N N2 := by
      intro M' N' g1 g2 g3
      have e6 : cn (N' 41 0 0) 6 = cn (N 41 0 0) 6 := cn_same (g3 6 (by omega))
      have e5 : cn (N' 41 0 0) 5 = cn (N 41 0 0) 5 := cn_same (g3 5 (by omega))
      obtain ⟨M2, N2, c1, c2, c3, c4, c5⟩ := month_loop hB r2 x1 x2 d (i + 1) n m M' N' g1 (by rw [e6]; exact h30) (by rw [e6]; exact h1) (fun b hb1 hb2 => by
        rw [e5] at hb2
        rw [e6, g3 _ (by omega)]
        exact hlow b (by omega) hb2) (by rw [e5]; omega) (by omega) (by omega)
      exact ⟨M2, N2, c1, c2, c3, g2.tr c4, fun k hk => (c5 k hk).trans (g3 k (by omega))⟩
    have key0 := key M N h DF.rf (fun _ _ => rfl)
    show ∃ M' N', mW_endDay_72b (mW_endDay_72 n) w (nI i) M = _ ∧ mK_run_98b r2 (mK_run_98 r2 m) x1 x2 (nI i) N = _ ∧ _
    unfold mW_endDay_72b mK_run_98b
    rw [h.c.e5, h.c.n5, h.c.e6, if_pos (nI_lt (by omega) (by omega)), if_pos (nI_lt (by omega) (by omega)), if_pos e30, if_pos e30, ixx_nI i24 (by decide), K_isContract_eq i24]
    simp only [Option.bind_some, bI_ite, nI_1, K_isIn_eq i24 hday]
    by_cases zk : N 41 0 0 (1056 + 14 * i) = 1 ∨ N 41 0 0 (1056 + 14 * i) = 2
    · by_cases zi : N 41 0 0 (1056 + 14 * i + 2) ≤ N 41 0 0 6 ∧ N 41 0 0 6 ≤ N 41 0 0 (1056 + 14 * i + 3)
      · obtain ⟨M', N', s1, s2, s3, s4, s5⟩ := settle_ok h hB hib zk zi h1 (hlow i (Nat.le_refl _) hib)
        rw [if_pos zk, if_pos zi, s1, s2]
        exact key M' N' s3 s4 s5
      · have e : mW_settle w w i M = some M := by
          unfold mW_settle
          rw [B_isContract_eq, q10]
          simp only [B_has_eq, h.c.e6, Option.bind_some, bI_ite, q1 2 (by decide), q1 3 (by decide)]
          rw [if_pos zk, if_neg zi]
        rw [if_pos zk, if_neg zi, e]
        exact key0
    · have e : mW_settle w w i M = some M := by
        unfold mW_settle
        rw [B_isContract_eq, q10]
        simp only [Option.bind_some, bI_ite]
        rw [if_neg zk]
      rw [if_neg zk, e]
      exact key0
theorem day_ok {B w : Nat} {M N : Mem} (h : RW B M w (N 41 0 0)) (hB : B < 10001) (hd : cn (N 41 0 0) 6 < 3000) (r2 : Int32 → Int32 → Mem → Option Mem) (x1 x2 : Int32) : ∃ M' N', mW_endDay w M = some M' ∧ mK_run_20 r2 fuel x1 x2 0 (up N 41 0 0 6 (N 41 0 0 6 + 1)) = r2 x1 (x2 + 1) N' ∧ RW B M' w (N' 41 0 0) ∧ DF w M N M' N' ∧ (∀ k, k < 9 → k ≠ 6 → N' 41 0 0 k = N 41 0 0 k) ∧ cn (N' 41 0 0) 6 = cn (N 41 0 0) 6 + 1 := by
  have b2 := h.c.b2
  have b5 := h.c.b5
  have e1 : N 41 0 0 6 + 1 = nI (cn (N 41 0 0) 6 + 1) := by
    have := nI_1 (cn (N 41 0 0) 6)
    rw [← h.c.n6] at this
    exact this
  generalize hday : cn (N 41 0 0) 6 = n at *
  have r1 : RW B (up M 1 w 0 0 (nI (n + 1))) w (up N 41 0 0 6 (nI (n + 1)) 41 0 0) := by
    rw [up_row]
    refine h.day (Nat.le_refl _) (fun r i k _ _ q => up_ne (by omega)) (fun k q => pk_un q) (h.c.set (j := 6) (n := n + 1) (by decide) (show n + 1 ≤ 3000 by omega) (fun k hk e => ?_) (fun k hk e => pk_un e) up_eq pk_us) ?_
    · have := slC_ne hk (by decide) e
      exact up_ne (fun q => this q.2.2.2)
    · rw [hday, cn_nI (n := n + 1) pk_us (by omega)]
      omega
  obtain ⟨N0, hN0⟩ : ∃ N0, N0 = up N 41 0 0 6 (nI (n + 1)) := ⟨_, rfl⟩
  obtain ⟨M0, hM0⟩ : ∃ M0, M0 = up M 1 w 0 0 (nI (n + 1)) := ⟨_, rfl⟩
  rw [← hN0, ← hM0] at r1
  have n0 : ∀ k, k ≠ 6 → N0 41 0 0 k = N 41 0 0 k := fun k hk => by rw [hN0, up_ne (by omega)]
  have n06 : cn (N0 41 0 0) 6 = n + 1 := cn_nI (by rw [hN0, up_eq]) (by omega)
  have d0 : DF w M N M0 N0 := ⟨fun r w' i k q => by rw [hM0, up_ne (by omega)], fun r w' i k q _ _ => by rw [hN0, upR q]⟩
  obtain ⟨M1, N1, a1, a2, a3⟩ := arrive_loop r2 x1 x2 (cn (N0 41 0 0) 2) 0 fuel fuel M0 N0 r1 (by omega) (by rw [cn_same (n0 2 (by omega))]; unfold fuel; omega) (by rw [cn_same (n0 2 (by omega))]; unfold fuel; omega)
  have c2 : cn (N1 41 0 0) 2 ≤ 5 := a3.1.c.b2
  obtain ⟨M2, N2, e2, e3, e4⟩ := eat_loop hB r2 x1 x2 (cn (N1 41 0 0) 2) 0 fuel fuel M1 N1 a3.1 (by omega) (by unfold fuel; omega) (by unfold fuel; omega)
  have g := a3.tr e4
  have g6 : cn (N2 41 0 0) 6 = n + 1 := (cn_same (g.2.2 6 (by omega))).trans n06
  have g5 : cn (N2 41 0 0) 5 = cn (N 41 0 0) 5 := (cn_same (g.2.2 5 (by omega))).trans (cn_same (n0 5 (by omega)))
  have hc : mW_endDay w M = mW_endDay_72 fuel w 0 M2 := by
    unfold mW_endDay mW_endDayb
    rw [h.c.e6, e1, ← hM0]
    exact (show mW_endDay_12 fuel w 0 M0 = _ from a1).trans e2
  have hk : mK_run_20 r2 fuel x1 x2 0 (up N 41 0 0 6 (N 41 0 0 6 + 1)) = mK_run_98 r2 fuel x1 x2 0 N2 := by
    rw [e1, ← hN0]
    exact (show mK_run_20 r2 fuel x1 x2 0 N0 = _ from a2).trans e3
  rw [hc, hk]
  by_cases z : (n + 1) % 30 = 0
  · obtain ⟨M3, N3, s1, s2, s3, s4, s5⟩ := month_loop hB r2 x1 x2 (cn (N2 41 0 0) 5) 0 fuel fuel M2 N2 g.1 (by rw [g6]; exact z) (by rw [g6]; omega) (fun b _ hb => by
      rw [g5] at hb
      rw [g6, g.2.2 _ (by omega), n0 _ (by omega)]
      have := (h.b b hb).2.2.2.2.2.1
      rw [hday] at this
      exact this.mono (by omega)) (by omega) (by rw [g5]; unfold fuel; omega) (by rw [g5]; unfold fuel; omega)
    refine ⟨M3, N3, s1, s2, s3, (d0.tr g.2.1).tr s4, fun k hk h6 => ?_, ?_⟩
    · rw [s5 k hk, g.2.2 k (by omega), n0 k h6]
    · rw [cn_same (s5 6 (by omega)), g6]
  · have e30 : N2 41 0 0 6 - N2 41 0 0 6 / 30 * 30 = nI ((n + 1) % 30) := by
      have := rem30 (n := n + 1) (by omega)
      rw [← g6, ← g.1.c.n6, g6] at this
      exact this
    have b5' := g.1.c.b5
    refine ⟨M2, N2, ?_, ?_, g.1, d0.tr g.2.1, fun k hk h6 => by rw [g.2.2 k (by omega), n0 k h6], g6⟩
    · show mW_endDay_72b (mW_endDay_72 _) w 0 M2 = _
      unfold mW_endDay_72b
      rw [g.1.c.e6, e30, if_neg (nI_nz (by omega) z)]
      split <;> rfl
    · show mK_run_98b r2 (mK_run_98 r2 _) x1 x2 0 N2 = _
      unfold mK_run_98b
      rw [e30, if_neg (nI_nz (by omega) z)]
      split <;> rfl
/-- so many days, by the class -/
def mD (w : Nat) : Nat → Mem → Option Mem
  | 0, M => some M
  | d + 1, M => (mW_endDay w M).bind fun q => mD w d q
theorem run_loop {B w : Nat} (hB : B < 10001) {x : Nat} (hx : x ≤ 200) : ∀ (d i m : Nat) (M N : Mem), RW B M w (N 41 0 0) → cn (N 41 0 0) 6 + d ≤ 3000 → i + d = x → d < m → ∃ M' N', mD w d M = some M' ∧ mK_run_2 m (nI x) (nI i) N = some N' ∧ RW B M' w (N' 41 0 0) ∧ DF w M N M' N' ∧ ∀ k, k < 9 → k ≠ 6 → N' 41 0 0 k = N 41 0 0 k
  | 0, i, m, M, N, h, hd, hi, hm => by
    obtain ⟨m, rfl⟩ : ∃ k, m = k + 1 := ⟨m - 1, by omega⟩
    refine ⟨M, N, rfl, ?_, h, DF.rf, fun _ _ _ => rfl⟩
    show mK_run_2b (mK_run_20 (mK_run_2 m) fuel) (nI x) (nI i) N = _
    unfold mK_run_2b
    rw [if_neg (nI_nlt (by omega) (by omega))]
  | d + 1, i, m, M, N, h, hd, hi, hm => by
    obtain ⟨m, rfl⟩ : ∃ k, m = k + 1 := ⟨m - 1, by omega⟩
    obtain ⟨M1, N1, a1, a2, a3, a4, a5, a6⟩ := day_ok h hB (by omega) (mK_run_2 m) (nI x) (nI i)
    obtain ⟨M2, N2, c1, c2, c3, c4, c5⟩ := run_loop hB hx d (i + 1) m M1 N1 a3 (by omega) (by omega) (by omega)
    refine ⟨M2, N2, ?_, ?_, c3, a4.tr c4, fun k hk h6 => (c5 k hk h6).trans (a5 k hk h6)⟩
    · show (mW_endDay w M).bind (fun q => mD w d q) = _
      rw [a1]
      exact c1
    · show mK_run_2b (mK_run_20 (mK_run_2 m) fuel) (nI x) (nI i) N = _
      unfold mK_run_2b
      rw [if_pos (nI_lt (by omega) (by omega))]
      simp only
      rw [a2, nI_1]
      exact c2
theorem F_days_34 {x : Nat} (hx : x ≤ 200) : ∀ (d i n : Nat) (M : Mem), i + d = x → d < n → mF_days_34 n (nI x) (nI i) M = (mD 0 d M).bind fun q => some (q 1 0 0 0, q)
  | 0, i, n, M, hi, hn => by
    obtain ⟨n, rfl⟩ : ∃ k, n = k + 1 := ⟨n - 1, by omega⟩
    show mF_days_34b (mF_days_34 n) (nI x) (nI i) M = _
    unfold mF_days_34b
    rw [if_neg (nI_nlt (by omega) (by omega))]
    rfl
  | d + 1, i, n, M, hi, hn => by
    obtain ⟨n, rfl⟩ : ∃ k, n = k + 1 := ⟨n - 1, by omega⟩
    show mF_days_34b (mF_days_34 n) (nI x) (nI i) M = ((mW_endDay 0 M).bind (fun q => mD 0 d q)).bind _
    unfold mF_days_34b
    rw [if_pos (nI_lt (by omega) (by omega)), nI_1]
    cases hE : mW_endDay 0 M with
    | none => rfl
    | some M1 => exact F_days_34 hx d (i + 1) n M1 (by omega) (by omega)
theorem s_days {B : Nat} {M N : Mem} (h : Rel B M N) (x1 : Int32) (hB : B < 10000) : Sim (Rel (B + 1)) (mF_days x1 M) (mK_days x1 N) := by
  unfold mF_days mF_daysb mK_days
  simp only [F_within_eq, K_in_eq, h.1.c.e6, Option.bind_some, bI_ite, bindE]
  refine Sim.ite (fun hp => ?_) (fun _ => Sim.f1 h)
  refine Sim.ite (fun hq => ?_) (fun _ => Sim.f1 h)
  obtain ⟨x, x1', x2', rfl⟩ := in_lit (a := 1) (b := 200) (by decide) hp (by decide)
  have b6 := h.1.c.b6
  have hq' : cn (N 41 0 0) 6 + x ≤ 3000 := by
    have e : N 41 0 0 6 + nI x = nI (cn (N 41 0 0) 6 + x) := by
      have := nI_add (cn (N 41 0 0) 6) x
      rw [← h.1.c.n6] at this
      exact this
    rw [e] at hq
    exact (nI_leI (b := 3000) (by omega) (by decide)).mp hq
  obtain ⟨M', N', a1, a2, a3, a4, a5⟩ := run_loop (w := 0) (show B < 10001 by omega) x2' x 0 fuel M N h.1 hq' (by omega) (by unfold fuel; omega)
  have e1 : mF_days_34 fuel (nI x) 0 M = _ := F_days_34 x2' x 0 fuel M (by omega) (by unfold fuel; omega)
  have e2 : mK_run (nI x) N = some N' := a2
  rw [e1, e2, a1]
  simp only [Option.bind_some]
  rw [a3.c.e6]
  exact Sim.ret (h.world (by omega) (a3.cong (by omega) (fun _ _ _ _ _ => rfl)) (fun r w i k _ _ _ _ q => a4.1 r w i k (by omega)) (fun r k q => a4.2 r 0 0 k (by omega) (by omega) (by omega)))
