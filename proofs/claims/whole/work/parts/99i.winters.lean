/-! ===== wintering on both sides ===== -/
theorem winter_ok {B : Nat} {M N : Mem} (h : RW B M 0 (N 41 0 0)) (hCT : cn (N 41 0 0) 2 ≤ cn (N 41 0 0) 0) : ∃ (v : Nat) (M' N' : Mem), v < 100000 ∧ mP_winterCost 0 M = some (nI v, M') ∧ mK_findWinter N = some N' ∧ N' 40 0 0 15 = nI v ∧ (∀ r w i k, r ≠ 24 → M' r w i k = M r w i k) ∧ (∀ r w i k, ¬ ((r = 40 ∧ k = 15) ∨ r = 54 ∨ r = 55) → N' r w i k = N r w i k) ∧ ∀ c, c < cn (N 41 0 0) 2 → ∃ t : Nat, mP_winterTown 0 (nI c) M' = some (nI t, M') ∧ N' 55 0 0 c = nI t := by
  have b0 := h.c.b0
  have b2 := h.c.b2
  obtain ⟨cst, hcst⟩ : ∃ cst : Nat → Nat → Nat, cst = fun c t => if c < cn (N 41 0 0) 2 ∧ t < 8 then (N 41 0 0 (1392 + 8 * c + t)).toNatClampNeg else 0 := ⟨_, rfl⟩
  have c1 : ∀ c t, c < cn (N 41 0 0) 2 → t < 8 → N 41 0 0 (1392 + 8 * c + t) = nI (cst c t) ∧ cst c t ≤ 9999 := by
    intro c t hc ht
    obtain ⟨j, hj, ej⟩ := (h.w c hc t ht).2
    rw [hcst]
    simp only [if_pos (And.intro hc ht), ej, nI_clamp (show j < 2 ^ 31 by omega)]
    exact ⟨trivial, by omega⟩
  have c2 : ∀ c t, cst c t ≤ 9999 := by
    intro c t
    by_cases z : c < cn (N 41 0 0) 2 ∧ t < 8
    · exact (c1 c t z.1 z.2).2
    · rw [hcst]
      simp only [if_neg z]
      omega
  have hW : WH M 0 (cn (N 41 0 0) 2) (cn (N 41 0 0) 0) cst := ⟨h.c.e2.trans h.c.n2, h.c.e0.trans h.c.n0, b2, b0, hCT, fun c t hc ht => by rw [(h.w c hc t (by omega)).1]; exact (c1 c t hc (by omega)).1, c2⟩
  obtain ⟨M', m1, m2, m3⟩ := P_winterCost_eq hW
  have hU : UW (up N 40 0 0 15 (-1)) (cn (N 41 0 0) 2) (cn (N 41 0 0) 0) cst := ⟨by rw [upR (by decide)]; exact h.c.n0, by rw [upR (by decide)]; exact h.c.n2, b2, b0, hCT, fun c t hc ht => by rw [upR (by decide)]; exact (c1 c t hc (by omega)).1, c2⟩
  have p0 : pc8 0 = 0 := by decide
  obtain ⟨N', r1, rF, r2⟩ := settleW (cn (N 41 0 0) 2) 0 0 0 60 (up N 40 0 0 15 (-1)) none (by omega) (by omega) (Nat.two_pow_pos _) p0 hU (by rw [up_eq]; rfl) (fun v hv => by cases hv) (Nat.zero_le _)
  have r1 : xK_settle 0 0 0 (up N 40 0 0 15 (-1)) = some N' := r1
  have lo := oW_le c2 (C := cn (N 41 0 0) 2) b0 (cn (N 41 0 0) 2) 0 (Nat.two_pow_pos _) (by rw [p0]; omega)
  rcases r2 with ⟨_, p2, p3, p4⟩ | ⟨p1, _⟩
  · rw [Nat.zero_add] at p2
    refine ⟨_, M', N', by omega, m1, ?_, p2, m2, fun r w i k hq => by rw [rF r w i k (by omega), up_ne (by omega)], fun c hc => ⟨tnW cst (cn (N 41 0 0) 2) (cn (N 41 0 0) 0) c, P_winterTown_eq (hW.cong m2) m3 hc, ?_⟩⟩
    · unfold mK_findWinter
      simp only [r1, Option.bind_some]
    · have e4 := p4 c hc
      rw [Nat.zero_add] at e4
      have e5 := ptW_tnW cst (cn (N 41 0 0) 2) (cn (N 41 0 0) 0) c 0 (cn (N 41 0 0) 2) (by omega) hc
      rw [Nat.zero_add] at e5
      rw [e4]
      exact congrArg nI e5
  · exact absurd trivial p1
theorem s_wintering {B : Nat} {M N : Mem} (h : Rel B M N) (x1 : Int32) : Sim (Rel (B + 1)) (mF_wintering x1 M) (mK_wintering x1 N) := by
  have b0 := h.1.c.b0
  have b2 := h.1.c.b2
  unfold mF_wintering mK_wintering
  simp only [F_within_eq, K_in_eq, h.1.c.e2, h.1.c.e0, Option.bind_some, bI_ite, bindE]
  refine Sim.ite (fun hp => ?_) (fun _ => Sim.f1 h)
  refine Sim.ite (fun _ => Sim.f3 h) (fun hq => ?_)
  have hCT : cn (N 41 0 0) 2 ≤ cn (N 41 0 0) 0 := by
    rw [h.1.c.n0, h.1.c.n2] at hq
    rcases Nat.lt_or_ge (cn (N 41 0 0) 0) (cn (N 41 0 0) 2) with z | z
    · exact absurd (nI_lt z (by omega)) hq
    · exact z
  obtain ⟨v, M', N', _, m1, k1, k2, m2, n2, ht⟩ := winter_ok h.1 hCT
  rw [m1, k1]
  simp only [Option.bind_some]
  have hR : Rel (B + 1) M' N' := h.frame (by omega) (fun r w i k _ q _ _ => m2 r w i k q) (fun r k q => n2 r 0 0 k (by omega))
  by_cases z : x1 < 0
  · rw [if_pos z, if_pos z, k2]
    exact Sim.ret hR
  · rw [if_neg z, if_neg z]
    obtain ⟨c, hc, rfl⟩ := h.1.c.in2 ⟨Int32.not_lt.mp z, hp.2⟩
    obtain ⟨t, e1, e2⟩ := ht c hc
    rw [e1, ixx_nI (by omega) (by decide), e2]
    exact Sim.ret hR
