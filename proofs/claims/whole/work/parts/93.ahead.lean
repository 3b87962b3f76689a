/-! ===== ahead ===== -/
theorem K_ahead_142 (N : Mem) (v : Int32) : ∀ (d i n : Nat), i + d = 1502 → d < n → mK_ahead_142 n v (nI i) (fm N 41 0 0 0 i (N 43 0 0)) = some (v, fm N 41 0 0 0 1502 (N 43 0 0)) := by
  intro d
  induction d with
  | zero =>
    intro i n hi hn
    obtain ⟨m, rfl⟩ : ∃ m, n = m + 1 := ⟨n - 1, by omega⟩
    show mK_ahead_142b (mK_ahead_142 m) v (nI i) _ = _
    unfold mK_ahead_142b
    rw [if_neg (show ¬ nI i < (1502 : Int32) from nI_nlt (b := 1502) (by omega) (by omega)), show i = 1502 by omega]
  | succ d ih =>
    intro i n hi hn
    obtain ⟨m, rfl⟩ : ∃ m, n = m + 1 := ⟨n - 1, by omega⟩
    show mK_ahead_142b (mK_ahead_142 m) v (nI i) _ = _
    unfold mK_ahead_142b
    rw [if_pos (show nI i < (1502 : Int32) from nI_lt (b := 1502) (by omega) (by omega)), ixx_nI (by omega) (by decide), ixx_nI (by omega) (by decide), nI_1, fm_o (by omega)]
    have z := ih (i + 1) m (by omega) (by omega)
    rw [← fm_s0] at z
    exact z
theorem K_ahead_98 (N : Mem) (x1 x2 x3 : Int32) : ∀ (d i n : Nat), i + d = 1502 → d < n → mK_ahead_98 n x1 x2 x3 (nI i) (fm N 43 0 0 0 i (N 41 0 0)) = (mK_run x1 (fm N 43 0 0 0 1502 (N 41 0 0))).bind fun q4 => (mK_seen x2 x3 q4).bind fun q5 => mK_ahead_142 fuel q5.1 0 q5.2 := by
  intro d
  induction d with
  | zero =>
    intro i n hi hn
    obtain ⟨m, rfl⟩ : ∃ m, n = m + 1 := ⟨n - 1, by omega⟩
    show mK_ahead_98b (mK_ahead_98 m) (mK_ahead_142 fuel) x1 x2 x3 (nI i) _ = _
    unfold mK_ahead_98b
    rw [if_neg (show ¬ nI i < (1502 : Int32) from nI_nlt (b := 1502) (by omega) (by omega)), show i = 1502 by omega]
  | succ d ih =>
    intro i n hi hn
    obtain ⟨m, rfl⟩ : ∃ m, n = m + 1 := ⟨n - 1, by omega⟩
    show mK_ahead_98b (mK_ahead_98 m) (mK_ahead_142 fuel) x1 x2 x3 (nI i) _ = _
    unfold mK_ahead_98b
    rw [if_pos (show nI i < (1502 : Int32) from nI_lt (b := 1502) (by omega) (by omega)), ixx_nI (by omega) (by decide), ixx_nI (by omega) (by decide), nI_1, fm_o (by omega)]
    have z := ih (i + 1) m (by omega) (by omega)
    rw [← fm_s0] at z
    exact z
/-- what the class sees in the trial world -/
def mS (x2 x3 : Int32) (M : Mem) : Option (Int32 × Mem) :=
  if x2 = 0 then ixx x3 8 fun k8 => some (M 3 2 k8 0, M)
  else if x2 = 1 then ixx x3 8 fun k7 => some (M 3 2 k7 1, M)
  else if x2 = 2 then ixx x3 5 fun k6 => some (M 6 2 k6 0, M)
  else if x2 = 3 then ixx x3 5 fun k5 => some (M 6 2 k5 1, M)
  else if x2 = 4 then ixx x3 5 fun k4 => some (M 6 2 k4 6, M)
  else if x2 = 5 then ixx x3 5 fun k3 => some (M 6 2 k3 7, M)
  else ixx x3 24 fun k2 => some (M 15 2 k2 8, M)
theorem F_ahead_101 {x : Nat} (hx : x ≤ 200) (x2 x3 : Int32) : ∀ (d i n : Nat) (M : Mem), i + d = x → d < n → mF_ahead_101 n (nI x) x2 x3 (nI i) M = (mD 2 d M).bind fun q => mS x2 x3 q
  | 0, i, n, M, hi, hn => by
    obtain ⟨n, rfl⟩ : ∃ k, n = k + 1 := ⟨n - 1, by omega⟩
    show mF_ahead_101b (mF_ahead_101 n) (nI x) x2 x3 (nI i) M = mS x2 x3 M
    unfold mF_ahead_101b mS
    rw [if_neg (nI_nlt (by omega) (by omega))]
  | d + 1, i, n, M, hi, hn => by
    obtain ⟨n, rfl⟩ : ∃ k, n = k + 1 := ⟨n - 1, by omega⟩
    show mF_ahead_101b (mF_ahead_101 n) (nI x) x2 x3 (nI i) M = ((mW_endDay 2 M).bind (fun q => mD 2 d q)).bind _
    unfold mF_ahead_101b
    rw [if_pos (nI_lt (by omega) (by omega)), nI_1]
    cases hE : mW_endDay 2 M with
    | none => rfl
    | some M1 => exact F_ahead_101 hx x2 x3 d (i + 1) n M1 (by omega) (by omega)
theorem seen_ok {B : Nat} {M N : Mem} (h : RW B M 2 (N 41 0 0)) {j y : Nat} (hj : j ≤ 6) (h0 : j < 2 → y < cn (N 41 0 0) 0) (h2 : 2 ≤ j → j < 6 → y < cn (N 41 0 0) 2) (h5 : j = 6 → y < cn (N 41 0 0) 5) : ∃ v, mS (nI j) (nI y) M = some (v, M) ∧ mK_seen (nI j) (nI y) N = some (v, N) := by
  have b0 := h.c.b0
  have b2 := h.c.b2
  have b5 := h.c.b5
  unfold mS mK_seen
  rcases (by omega : j = 0 ∨ j = 1 ∨ j = 2 ∨ j = 3 ∨ j = 4 ∨ j = 5 ∨ j = 6) with rfl | rfl | rfl | rfl | rfl | rfl | rfl
  · have hy := h0 (by decide)
    have z : M 3 2 y 0 = N 41 0 0 (20 + 4 * y) := (h.t y hy).1 0 (by decide)
    rw [if_pos (show nI 0 = (0 : Int32) from rfl), if_pos (show nI 0 = (0 : Int32) from rfl), ixx_nI (by omega) (by decide), K_ofTown_0 (by omega), z]
    exact ⟨_, rfl, rfl⟩
  · have hy := h0 (by decide)
    rw [if_neg (show ¬ nI 1 = (0 : Int32) by decide), if_neg (show ¬ nI 1 = (0 : Int32) by decide), if_pos (show nI 1 = (1 : Int32) from rfl), if_pos (show nI 1 = (1 : Int32) from rfl), ixx_nI (by omega) (by decide), K_ofTown_1 (by omega), (h.t y hy).1 1 (by decide)]
    exact ⟨_, rfl, rfl⟩
  · have hy := h2 (by decide) (by decide)
    rw [if_neg (show ¬ nI 2 = (0 : Int32) by decide), if_neg (show ¬ nI 2 = (0 : Int32) by decide), if_neg (show ¬ nI 2 = (1 : Int32) by decide), if_neg (show ¬ nI 2 = (1 : Int32) by decide), if_pos (show nI 2 = (2 : Int32) from rfl), if_pos (show nI 2 = (2 : Int32) from rfl), ixx_nI (by omega) (by decide), K_own_0 (by omega), (h.p y hy).1.1]
    exact ⟨_, rfl, rfl⟩
  · have hy := h2 (by decide) (by decide)
    rw [if_neg (show ¬ nI 3 = (0 : Int32) by decide), if_neg (show ¬ nI 3 = (0 : Int32) by decide), if_neg (show ¬ nI 3 = (1 : Int32) by decide), if_neg (show ¬ nI 3 = (1 : Int32) by decide), if_neg (show ¬ nI 3 = (2 : Int32) by decide), if_neg (show ¬ nI 3 = (2 : Int32) by decide), if_pos (show nI 3 = (3 : Int32) from rfl), if_pos (show nI 3 = (3 : Int32) from rfl), ixx_nI (by omega) (by decide), K_own_1 (by omega), (h.p y hy).1.2.1]
    exact ⟨_, rfl, rfl⟩
  · have hy := h2 (by decide) (by decide)
    rw [if_neg (show ¬ nI 4 = (0 : Int32) by decide), if_neg (show ¬ nI 4 = (0 : Int32) by decide), if_neg (show ¬ nI 4 = (1 : Int32) by decide), if_neg (show ¬ nI 4 = (1 : Int32) by decide), if_neg (show ¬ nI 4 = (2 : Int32) by decide), if_neg (show ¬ nI 4 = (2 : Int32) by decide), if_neg (show ¬ nI 4 = (3 : Int32) by decide), if_neg (show ¬ nI 4 = (3 : Int32) by decide), if_pos (show nI 4 = (4 : Int32) from rfl), if_pos (show nI 4 = (4 : Int32) from rfl), ixx_nI (by omega) (by decide), K_manySo_0 h, (h.f y hy).1]
    exact ⟨_, rfl, rfl⟩
  · have hy := h2 (by decide) (by decide)
    rw [if_neg (show ¬ nI 5 = (0 : Int32) by decide), if_neg (show ¬ nI 5 = (0 : Int32) by decide), if_neg (show ¬ nI 5 = (1 : Int32) by decide), if_neg (show ¬ nI 5 = (1 : Int32) by decide), if_neg (show ¬ nI 5 = (2 : Int32) by decide), if_neg (show ¬ nI 5 = (2 : Int32) by decide), if_neg (show ¬ nI 5 = (3 : Int32) by decide), if_neg (show ¬ nI 5 = (3 : Int32) by decide), if_neg (show ¬ nI 5 = (4 : Int32) by decide), if_neg (show ¬ nI 5 = (4 : Int32) by decide), if_pos (show nI 5 = (5 : Int32) from rfl), if_pos (show nI 5 = (5 : Int32) from rfl), ixx_nI (by omega) (by decide), K_manySo_1 h, (h.f y hy).2]
    exact ⟨_, rfl, rfl⟩
  · have hy := h5 rfl
    rw [if_neg (show ¬ nI 6 = (0 : Int32) by decide), if_neg (show ¬ nI 6 = (0 : Int32) by decide), if_neg (show ¬ nI 6 = (1 : Int32) by decide), if_neg (show ¬ nI 6 = (1 : Int32) by decide), if_neg (show ¬ nI 6 = (2 : Int32) by decide), if_neg (show ¬ nI 6 = (2 : Int32) by decide), if_neg (show ¬ nI 6 = (3 : Int32) by decide), if_neg (show ¬ nI 6 = (3 : Int32) by decide), if_neg (show ¬ nI 6 = (4 : Int32) by decide), if_neg (show ¬ nI 6 = (4 : Int32) by decide), if_neg (show ¬ nI 6 = (5 : Int32) by decide), if_neg (show ¬ nI 6 = (5 : Int32) by decide), ixx_nI (by omega) (by decide), K_bond_8 (by omega), (h.b y hy).1 8 (by decide)]
    exact ⟨_, rfl, rfl⟩
theorem ahead_go {B : Nat} {M N : Mem} (h : Rel B M N) (hB : B < 10000) {x j y : Nat} (hx : x ≤ 200) (hq : cn (N 41 0 0) 6 + x ≤ 3000) (hj : j ≤ 6) (h0 : j < 2 → y < cn (N 41 0 0) 0) (h2 : 2 ≤ j → j < 6 → y < cn (N 41 0 0) 2) (h5 : j = 6 → y < cn (N 41 0 0) 5) : Sim (Rel (B + 1)) ((mW_copy 2 0 M).bind fun q => mF_ahead_101 fuel (nI x) (nI j) (nI y) 0 q) (mK_ahead_98 fuel (nI x) (nI j) (nI y) 0 N) := by
  rw [W_copy_eq (by decide) h.1]
  simp only [Option.bind_some]
  have z := K_ahead_98 N (nI x) (nI j) (nI y) 1502 0 fuel (by omega) (by unfold fuel; omega)
  rw [fm_0] at z
  have z : mK_ahead_98 fuel (nI x) (nI j) (nI y) 0 N = _ := z
  have e1 : mF_ahead_101 fuel (nI x) (nI j) (nI y) 0 (cW M 2 0 (N 41 0 0)) = _ := F_ahead_101 hx (nI j) (nI y) x 0 fuel (cW M 2 0 (N 41 0 0)) (by omega) (by unfold fuel; omega)
  rw [z, e1]
  have eN : fm N 43 0 0 0 1502 (N 41 0 0) 41 0 0 = N 41 0 0 := funext fun k => fm_o (by omega)
  have hc : RW B (cW M 2 0 (N 41 0 0)) 2 (fm N 43 0 0 0 1502 (N 41 0 0) 41 0 0) := by
    rw [eN]
    exact RW.copied (by decide) h.1
  obtain ⟨M', N', a1, a2, a3, a4, a5⟩ := run_loop (w := 2) (show B < 10001 by omega) hx x 0 fuel (cW M 2 0 (N 41 0 0)) (fm N 43 0 0 0 1502 (N 41 0 0)) hc (by rw [eN]; exact hq) (by omega) (by unfold fuel; omega)
  rw [eN] at a5
  have e2 : mK_run (nI x) (fm N 43 0 0 0 1502 (N 41 0 0)) = some N' := a2
  rw [e2, a1]
  simp only [Option.bind_some]
  obtain ⟨v, s1, s2⟩ := seen_ok a3 (j := j) (y := y) hj (by rw [cn_same (a5 0 (by omega) (by omega))]; exact h0) (by rw [cn_same (a5 2 (by omega) (by omega))]; exact h2) (by rw [cn_same (a5 5 (by omega) (by omega))]; exact h5)
  rw [s1, s2]
  simp only [Option.bind_some]
  have z2 := K_ahead_142 N' v 1502 0 fuel (by omega) (by unfold fuel; omega)
  rw [fm_0] at z2
  have z2 : mK_ahead_142 fuel v 0 N' = _ := z2
  rw [z2]
  refine Sim.ret (h.world (by omega) ?_ (fun r w i k _ _ _ w2 q => by rw [a4.1 r w i k (by omega), cW_o (by omega)]) (fun r k q => by rw [fm_o (by omega), a4.2 r 0 0 k (by omega) (by omega) (by omega), fm_o (by omega)]))
  refine RW.row (f := N 41 0 0) ?_ (fun k hk => ?_)
  · exact h.1.cong (by omega) (fun r i k _ _ => by rw [a4.1 r 0 i k (by omega), cW_o (by omega)])
  · rw [fm_row hk, a4.2 43 0 0 k (by omega) (by omega) (by omega), fm_row hk]
theorem s_ahead {B : Nat} {M N : Mem} (h : Rel B M N) (x1 x2 x3 : Int32) (hB : B < 10000) : Sim (Rel (B + 1)) (mF_ahead x1 x2 x3 M) (mK_ahead x1 x2 x3 N) := by
  unfold mF_ahead mF_aheadb mK_ahead mK_aheadb mK_ahead_81 mK_ahead_81b
  simp only [F_within_eq, K_in_eq, F_isTown_eq h.1.c, K_isTown_eq, F_isCompany_eq h.1.c, K_isCompany_eq, F_isBond_eq h.1.c, K_isBond_eq, h.1.c.e6, Option.bind_some, bI_ite, bindE]
  refine Sim.ite (fun hp => ?_) (fun _ => Sim.f1 h)
  refine Sim.ite (fun hq => ?_) (fun _ => Sim.f1 h)
  refine Sim.ite (fun hr => ?_) (fun _ => Sim.f1 h)
  obtain ⟨x, hx, rfl⟩ := in_lit0 (b := 200) (by decide) hp
  obtain ⟨j, hj, rfl⟩ := in_lit0 (b := 6) (by decide) hr
  have b6 := h.1.c.b6
  have hq' : cn (N 41 0 0) 6 + x ≤ 3000 := by
    have e : N 41 0 0 6 + nI x = nI (cn (N 41 0 0) 6 + x) := by
      have := nI_add (cn (N 41 0 0) 6) x
      rw [← h.1.c.n6] at this
      exact this
    rw [e] at hq
    exact (nI_leI (b := 3000) (by omega) (by decide)).mp hq
  by_cases z2 : j < 2
  · have e2 : nI j < (2 : Int32) := nI_lt (b := 2) z2 (by decide)
    rw [if_pos e2, if_pos e2]
    refine Sim.ite (fun hs => ?_) (fun _ => Sim.f1 h)
    obtain ⟨y, hy, rfl⟩ := h.1.c.in0 hs
    exact ahead_go h hB (by omega) hq' (by omega) (fun _ => hy) (by omega) (by omega)
  · have e2 : ¬ nI j < (2 : Int32) := nI_nlt (b := 2) (by omega) (by omega)
    rw [if_neg e2, if_neg e2]
    by_cases z6 : j < 6
    · have e6 : nI j < (6 : Int32) := nI_lt (b := 6) z6 (by decide)
      rw [if_pos e6, if_pos e6]
      refine Sim.ite (fun hs => ?_) (fun _ => Sim.f1 h)
      obtain ⟨y, hy, rfl⟩ := h.1.c.in2 hs
      exact ahead_go h hB (by omega) hq' (by omega) (by omega) (fun _ _ => hy) (by omega)
    · have e6 : ¬ nI j < (6 : Int32) := nI_nlt (b := 6) (by omega) (by omega)
      rw [if_neg e6, if_neg e6]
      refine Sim.ite (fun hs => ?_) (fun _ => Sim.f1 h)
      obtain ⟨y, hy, rfl⟩ := h.1.c.in5 hs
      exact ahead_go h hB (by omega) hq' (by omega) (by omega) (by omega) (fun _ => hy)
