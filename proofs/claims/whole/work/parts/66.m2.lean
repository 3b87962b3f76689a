/-! ===== methods: what is asked of one thing ===== -/
theorem slC_ne {k j : Nat} (hk : k < 9) (hj : j < 9) (h : k ≠ j) : slC k ≠ slC j := by
  rcases (by omega : k = 0 ∨ k = 1 ∨ k = 2 ∨ k = 3 ∨ k = 4 ∨ k = 5 ∨ k = 6 ∨ k = 7 ∨ k = 8) with rfl | rfl | rfl | rfl | rfl | rfl | rfl | rfl | rfl <;>
  rcases (by omega : j = 0 ∨ j = 1 ∨ j = 2 ∨ j = 3 ∨ j = 4 ∨ j = 5 ∨ j = 6 ∨ j = 7 ∨ j = 8) with rfl | rfl | rfl | rfl | rfl | rfl | rfl | rfl | rfl <;> first | exact absurd rfl h | decide
theorem s_bondIs {B : Nat} {M N : Mem} (h : Rel B M N) (x1 x2 : Int32) : Sim (Rel (B + 1)) (mF_bondIs x1 x2 M) (mK_bondIs x1 x2 N) := by
  unfold mF_bondIs mK_bondIs
  simp only [F_isBond_eq h.1.c, K_isBond_eq, F_within_eq, K_in_eq, Option.bind_some, bI_ite, bindE]
  refine Sim.ite (fun hp => ?_) (fun _ => Sim.f1 h)
  obtain ⟨t, ht, rfl⟩ := h.1.c.in5 hp
  have b0 := h.1.c.b5
  have t8 : t < 24 := by omega
  have q1 := (h.1.b t ht).1
  rw [ixx_nI t8 (by decide)]
  by_cases hr : 0 ≤ x2 ∧ x2 ≤ 9
  · rw [if_pos hr]
    obtain ⟨j, hj, e⟩ := in_lit0 (b := 9) (by decide) hr
    rcases (by omega : j = 0 ∨ j = 1 ∨ j = 2 ∨ j = 3 ∨ j = 4 ∨ j = 5 ∨ j = 6 ∨ j = 7 ∨ j = 8 ∨ j = 9) with rfl | rfl | rfl | rfl | rfl | rfl | rfl | rfl | rfl | rfl
    · have e2 : x2 = 0 := e
      subst e2
      simp only [if_true, if_false, q1 0 (by decide), K_bond_0 t8]
      exact Sim.ret h.up1
    · have e2 : x2 = 1 := e
      subst e2
      simp only [show ((1 : Int32) = 0) = False from eq_false (by decide), if_true, if_false, q1 1 (by decide), K_bond_1 t8]
      exact Sim.ret h.up1
    · have e2 : x2 = 2 := e
      subst e2
      simp only [show ((2 : Int32) = 0) = False from eq_false (by decide), show ((2 : Int32) = 1) = False from eq_false (by decide), if_true, if_false, q1 2 (by decide), K_bond_2 t8]
      exact Sim.ret h.up1
    · have e2 : x2 = 3 := e
      subst e2
      simp only [show ((3 : Int32) = 0) = False from eq_false (by decide), show ((3 : Int32) = 1) = False from eq_false (by decide), show ((3 : Int32) = 2) = False from eq_false (by decide), if_true, if_false, q1 3 (by decide), K_bond_3 t8]
      exact Sim.ret h.up1
    · have e2 : x2 = 4 := e
      subst e2
      simp only [show ((4 : Int32) = 0) = False from eq_false (by decide), show ((4 : Int32) = 1) = False from eq_false (by decide), show ((4 : Int32) = 2) = False from eq_false (by decide), show ((4 : Int32) = 3) = False from eq_false (by decide), if_true, if_false, q1 5 (by decide), K_bond_5 t8]
      exact Sim.ret h.up1
    · have e2 : x2 = 5 := e
      subst e2
      simp only [show ((5 : Int32) = 0) = False from eq_false (by decide), show ((5 : Int32) = 1) = False from eq_false (by decide), show ((5 : Int32) = 2) = False from eq_false (by decide), show ((5 : Int32) = 3) = False from eq_false (by decide), show ((5 : Int32) = 4) = False from eq_false (by decide), if_true, if_false, q1 6 (by decide), K_bond_6 t8]
      exact Sim.ret h.up1
    · have e2 : x2 = 6 := e
      subst e2
      simp only [show ((6 : Int32) = 0) = False from eq_false (by decide), show ((6 : Int32) = 1) = False from eq_false (by decide), show ((6 : Int32) = 2) = False from eq_false (by decide), show ((6 : Int32) = 3) = False from eq_false (by decide), show ((6 : Int32) = 4) = False from eq_false (by decide), show ((6 : Int32) = 5) = False from eq_false (by decide), if_true, if_false, q1 7 (by decide), K_bond_7 t8]
      exact Sim.ret h.up1
    · have e2 : x2 = 7 := e
      subst e2
      simp only [show ((7 : Int32) = 0) = False from eq_false (by decide), show ((7 : Int32) = 1) = False from eq_false (by decide), show ((7 : Int32) = 2) = False from eq_false (by decide), show ((7 : Int32) = 3) = False from eq_false (by decide), show ((7 : Int32) = 4) = False from eq_false (by decide), show ((7 : Int32) = 5) = False from eq_false (by decide), show ((7 : Int32) = 6) = False from eq_false (by decide), if_true, if_false, q1 8 (by decide), K_bond_8 t8]
      exact Sim.ret h.up1
    · have e2 : x2 = 8 := e
      subst e2
      simp only [show ((8 : Int32) = 0) = False from eq_false (by decide), show ((8 : Int32) = 1) = False from eq_false (by decide), show ((8 : Int32) = 2) = False from eq_false (by decide), show ((8 : Int32) = 3) = False from eq_false (by decide), show ((8 : Int32) = 4) = False from eq_false (by decide), show ((8 : Int32) = 5) = False from eq_false (by decide), show ((8 : Int32) = 6) = False from eq_false (by decide), show ((8 : Int32) = 7) = False from eq_false (by decide), if_true, if_false, q1 9 (by decide), K_bond_9 t8]
      exact Sim.ret h.up1
    · have e2 : x2 = 9 := e
      subst e2
      simp only [show ((9 : Int32) = 0) = False from eq_false (by decide), show ((9 : Int32) = 1) = False from eq_false (by decide), show ((9 : Int32) = 2) = False from eq_false (by decide), show ((9 : Int32) = 3) = False from eq_false (by decide), show ((9 : Int32) = 4) = False from eq_false (by decide), show ((9 : Int32) = 5) = False from eq_false (by decide), show ((9 : Int32) = 6) = False from eq_false (by decide), show ((9 : Int32) = 7) = False from eq_false (by decide), show ((9 : Int32) = 8) = False from eq_false (by decide), if_true, if_false, q1 10 (by decide), K_bond_10 t8]
      exact Sim.ret h.up1
  · rw [if_neg hr]
    have n0 : ¬ x2 = 0 := by
      intro q
      rw [q] at hr
      exact hr (by decide)
    have n1 : ¬ x2 = 1 := by
      intro q
      rw [q] at hr
      exact hr (by decide)
    have n2 : ¬ x2 = 2 := by
      intro q
      rw [q] at hr
      exact hr (by decide)
    have n3 : ¬ x2 = 3 := by
      intro q
      rw [q] at hr
      exact hr (by decide)
    have n4 : ¬ x2 = 4 := by
      intro q
      rw [q] at hr
      exact hr (by decide)
    have n5 : ¬ x2 = 5 := by
      intro q
      rw [q] at hr
      exact hr (by decide)
    have n6 : ¬ x2 = 6 := by
      intro q
      rw [q] at hr
      exact hr (by decide)
    have n7 : ¬ x2 = 7 := by
      intro q
      rw [q] at hr
      exact hr (by decide)
    have n8 : ¬ x2 = 8 := by
      intro q
      rw [q] at hr
      exact hr (by decide)
    have n9 : ¬ x2 = 9 := by
      intro q
      rw [q] at hr
      exact hr (by decide)
    simp only [n0, n1, n2, n3, n4, n5, n6, n7, n8, n9, if_false]
    exact Sim.f1 h
theorem s_lanceIs {B : Nat} {M N : Mem} (h : Rel B M N) (x1 x2 : Int32) : Sim (Rel (B + 1)) (mF_lanceIs x1 x2 M) (mK_lanceIs x1 x2 N) := by
  unfold mF_lanceIs mK_lanceIs
  simp only [F_isLance_eq h.1.c, K_isLance_eq, F_within_eq, K_in_eq, Option.bind_some, bI_ite, bindE]
  refine Sim.ite (fun hp => ?_) (fun _ => Sim.f1 h)
  obtain ⟨t, ht, rfl⟩ := h.1.c.in3 hp
  have b0 := h.1.c.b3
  have t8 : t < 40 := by omega
  have q1 := (h.1.l t ht).1
  rw [ixx_nI t8 (by decide)]
  by_cases hr : 0 ≤ x2 ∧ x2 ≤ 4
  · rw [if_pos hr]
    obtain ⟨j, hj, e⟩ := in_lit0 (b := 4) (by decide) hr
    rcases (by omega : j = 0 ∨ j = 1 ∨ j = 2 ∨ j = 3 ∨ j = 4) with rfl | rfl | rfl | rfl | rfl
    · have e2 : x2 = 0 := e
      subst e2
      simp only [if_true, if_false, q1 0 (by decide), K_its_0 t8]
      exact Sim.ret h.up1
    · have e2 : x2 = 1 := e
      subst e2
      simp only [show ((1 : Int32) = 0) = False from eq_false (by decide), if_true, if_false, q1 1 (by decide), K_its_1 t8]
      exact Sim.ret h.up1
    · have e2 : x2 = 2 := e
      subst e2
      simp only [show ((2 : Int32) = 0) = False from eq_false (by decide), show ((2 : Int32) = 1) = False from eq_false (by decide), if_true, if_false, q1 2 (by decide), K_its_2 t8]
      exact Sim.ret h.up1
    · have e2 : x2 = 3 := e
      subst e2
      simp only [show ((3 : Int32) = 0) = False from eq_false (by decide), show ((3 : Int32) = 1) = False from eq_false (by decide), show ((3 : Int32) = 2) = False from eq_false (by decide), if_true, if_false, q1 3 (by decide), K_its_3 t8]
      exact Sim.ret h.up1
    · have e2 : x2 = 4 := e
      subst e2
      simp only [show ((4 : Int32) = 0) = False from eq_false (by decide), show ((4 : Int32) = 1) = False from eq_false (by decide), show ((4 : Int32) = 2) = False from eq_false (by decide), show ((4 : Int32) = 3) = False from eq_false (by decide), if_true, if_false, q1 4 (by decide), K_its_4 t8]
      exact Sim.ret h.up1
  · rw [if_neg hr]
    have n0 : ¬ x2 = 0 := by
      intro q
      rw [q] at hr
      exact hr (by decide)
    have n1 : ¬ x2 = 1 := by
      intro q
      rw [q] at hr
      exact hr (by decide)
    have n2 : ¬ x2 = 2 := by
      intro q
      rw [q] at hr
      exact hr (by decide)
    have n3 : ¬ x2 = 3 := by
      intro q
      rw [q] at hr
      exact hr (by decide)
    have n4 : ¬ x2 = 4 := by
      intro q
      rw [q] at hr
      exact hr (by decide)
    simp only [n0, n1, n2, n3, n4, if_false]
    exact Sim.f1 h
theorem s_found {B : Nat} {M N : Mem} (h : Rel B M N) (x1 : Int32) : Sim (Rel (B + 1)) (mF_found x1 M) (mK_found x1 N) := by
  unfold mF_found mK_found
  simp only [F_within_eq, K_in_eq, Option.bind_some, bI_ite, bindE]
  refine Sim.ite (fun hp => ?_) (fun _ => Sim.f1 h)
  obtain ⟨j, h1, h2, rfl⟩ := in_lit (a := 1) (b := 5) (by decide) hp (by decide)
  rw [ixx_nI (by omega) (by decide), ixx_nI (by omega) (by decide), h.2.2.2.1 j (by omega)]
  exact Sim.ret h.up1
theorem s_trace {B : Nat} {M N : Mem} (h : Rel B M N) (x1 : Int32) : Sim (Rel (B + 1)) (mF_trace x1 M) (mK_trace x1 N) := by
  obtain ⟨e1, ⟨n, hn, e2⟩, e3⟩ := h.2.2.2.2.2
  have e4 : cn (N 40 0 0) 22 = n := cn_nI e2 (by omega)
  unfold mF_trace mK_trace
  rw [e1]
  simp only [F_within_eq, K_in_eq, Option.bind_some, bI_ite, bindE]
  refine Sim.ite (fun hp => ?_) (fun _ => Sim.f2 h)
  rw [e2] at hp
  obtain ⟨j, hj, rfl⟩ := (in_cnt (by omega)).mp hp
  rw [ixx_nI (by omega) (by decide), ixx_nI (by omega) (by decide), e3 j (by omega)]
  exact Sim.ret h.up1
theorem s_winter {B : Nat} {M N : Mem} (h : Rel B M N) (x1 x2 x3 : Int32) : Sim (Rel (B + 1)) (mF_winter x1 x2 x3 M) (mK_winter x1 x2 x3 N) := by
  unfold mF_winter mK_winter
  simp only [F_isTown_eq h.1.c, K_isTown_eq, F_isCompany_eq h.1.c, K_isCompany_eq, F_within_eq, K_in_eq, Option.bind_some, bI_ite, bindE]
  refine Sim.ite (fun hp => ?_) (fun _ => Sim.f1 h)
  refine Sim.ite (fun hq => ?_) (fun _ => Sim.f1 h)
  refine Sim.ite (fun hr => ?_) (fun _ => Sim.f1 h)
  obtain ⟨c, hc, rfl⟩ := h.1.c.in2 hp
  obtain ⟨t, ht, rfl⟩ := h.1.c.in0 hq
  have b0 := h.1.c.b0
  have b2 := h.1.c.b2
  have i1 : ∀ {F : Nat → Option (Int32 × Mem)}, ixx ((1392 + (8 * nI c)) + nI t) 1502 F = F (1392 + 8 * c + t) := fun {F} => ixx_e (ix3 1392 8 c t) (by omega) (by decide)
  rw [ixx_nI (by omega) (by decide), ixx_nI (by omega) (by decide), ixx_nI (by omega) (by decide), i1, i1, (h.1.w c hc t (by omega)).1]
  refine Sim.ret (h.world (by omega) ?_ (fun r w i k _ _ _ _ q => up_ne (by omega)) (fun r k q => up_ne (by omega)))
  rw [up_row]
  refine h.1.winterAt (by omega) (fun r i k _ _ q => up_ne (by omega)) (fun k q => pk_un (by omega)) ?_
  intro c' hc' t' ht'
  rw [cn_same (f := N 41 0 0) (pk_un (by omega))] at hc'
  by_cases e : c' = c ∧ t' = t
  · obtain ⟨rfl, rfl⟩ := e
    rw [up_eq, pk_us]
    exact ⟨rfl, in_lit0 (b := 9999) (by decide) hr⟩
  · rw [up_ne (by omega), pk_un (by omega)]
    exact h.1.w c' hc' t' ht'
theorem s_tell {B : Nat} {M N : Mem} (h : Rel B M N) (x1 : Int32) : Sim (Rel (B + 1)) (mF_tell x1 M) (mK_tell x1 N) := by
  unfold mF_tell mK_tell
  simp only [bindE]
  have b8 := h.1.c.b8
  have e8 := h.1.c.e8
  have n8 := h.1.c.n8
  rw [e8]
  by_cases hf : N 41 0 0 8 = 20
  · rw [if_pos hf, if_neg (by rw [hf]; decide)]
    exact Sim.f4 h
  have hl : N 41 0 0 8 < 20 := (cnt_lt (b := 20) n8 b8 (by decide)).mpr hf
  rw [if_neg hf, if_pos hl]
  have t8 : cn (N 41 0 0) 8 < 20 := by
    rw [n8] at hl
    exact (nI_ltI (b := 20) (by omega) (by decide)).mp hl
  have i1 : ∀ {F : Nat → Option (Int32 × Mem)}, ixx (1482 + nI (cn (N 41 0 0) 8)) 1502 F = F (1482 + cn (N 41 0 0) 8) := fun {F} => ixx_e (nI_add 1482 _) (by omega) (by decide)
  have m1 : up M 16 0 0 (cn (N 41 0 0) 8) x1 1 0 0 16 = nI (cn (N 41 0 0) 8) := by rw [upR (by decide), e8, n8]
  have m2 : up N 41 0 0 (1482 + cn (N 41 0 0) 8) x1 41 0 0 8 = nI (cn (N 41 0 0) 8) := by rw [up_ne (by omega)]; exact n8
  rw [n8, ixx_nI t8 (by decide), i1, m1, m2, up_eq, up_eq, nI_1]
  refine Sim.ret (h.world (by omega) ?_ (fun r w i k _ _ _ _ q => by rw [up_ne (by omega), up_ne (by omega)]) (fun r k q => by rw [up_ne (by omega), up_ne (by omega)]))
  rw [up_row, up_row]
  generalize hT : cn (N 41 0 0) 8 = T at *
  have hc : cn (upd (upd (N 41 0 0) (1482 + T) x1) 8 (nI (T + 1))) 8 = T + 1 := cn_nI pk_us (by omega)
  refine h.1.wait (by omega) (fun r i k _ _ q => by rw [up_ne (by omega), up_ne (by omega)]) (fun k q => by rw [pk_un (by omega), pk_un (by omega)]) ?_ ?_
  · refine h.1.c.set (j := 8) (n := T + 1) (by decide) t8 (fun k hk e => ?_) (fun k hk e => ?_) up_eq pk_us
    · have := slC_ne hk (by decide) e
      have e' : slC 8 = 16 := rfl
      rw [up_ne (by omega), up_ne (by omega)]
    · rw [pk_un (by omega), pk_un (by omega)]
  · intro j hj
    rw [hc] at hj
    rw [upR (by decide), pk_un (by omega)]
    by_cases e : j = T
    · subst e
      rw [up_eq, pk_us]
    · rw [up_ne (by omega), pk_un (by omega)]
      exact h.1.q j (by omega)
theorem s_buy {B : Nat} {M N : Mem} (h : Rel B M N) (x1 x2 : Int32) (hB : B < 10000) : Sim (Rel (B + 1)) (mF_buy x1 x2 M) (mK_buy x1 x2 N) := by
  unfold mF_buy mK_buy
  simp only [F_isCompany_eq h.1.c, K_isCompany_eq, F_within_eq, K_in_eq, C_marches_eq, Option.bind_some, bI_ite, bindE]
  refine Sim.ite (fun hp => ?_) (fun _ => Sim.f1 h)
  refine Sim.ite (fun hq => ?_) (fun _ => Sim.f1 h)
  obtain ⟨c, hc, rfl⟩ := h.1.c.in2 hp
  have b0 := h.1.c.b0
  have b2 := h.1.c.b2
  have c5 : c < 5 := by omega
  obtain ⟨⟨a0, a1, a2, a3, a8, a9, a11⟩, h2, h3, h4, h5, h6, h7, h8⟩ := h.1.p c hc
  rw [ixx_nI c5 (by decide), a3, K_own_2 c5]
  simp only [Option.bind_some]
  by_cases hm : N 41 0 0 (100 + 24 * c + 2) < 0
  · rw [if_pos hm, if_pos hm]
    exact Sim.f3 h
  rw [if_neg hm, if_neg hm]
  have ht : isN (N 41 0 0 (100 + 24 * c + 2)) (cn (N 41 0 0) 0) := h6.resolve_right (fun q => hm (by rw [q.1]; decide))
  obtain ⟨t, ht, et⟩ := ht
  have t8 : t < 8 := by omega
  obtain ⟨q1, q2, q3⟩ := h.1.t t ht
  have q0 : M 3 0 t 0 = N 41 0 0 (20 + 4 * t) := q1 0 (by decide)
  rw [et, ixx_nI t8 (by decide), a0, q1 1 (by decide), K_own_0 c5]
  simp only [Option.bind_some, K_ofTown_1 t8]
  refine Sim.ite (fun hz => Sim.f2 h) (fun hz => ?_)
  refine Sim.ite (fun hy => Sim.f2 h) (fun hy => ?_)
  simp only [K_townGets_0 t8, K_townGets_1 t8, Option.bind_some, K_own_0 c5, K_own_1 c5, K_sets_0 c5, K_sets_1 c5]
  have m1 : ∀ v, up M 6 0 c 0 v 3 0 t 0 = N 41 0 0 (20 + 4 * t) := fun v => by rw [upR (by decide), q0]
  have m2 : ∀ v u, up (up M 6 0 c 0 v) 3 0 t 0 u 3 0 t 1 = N 41 0 0 (20 + 4 * t + 1) := fun v u => by rw [up_ne (by omega), upR (by decide), q1 1 (by decide)]
  have m3 : ∀ v u z, up (up (up M 6 0 c 0 v) 3 0 t 0 u) 3 0 t 1 z 6 0 c 1 = N 41 0 0 (100 + 24 * c + 1) := fun v u z => by rw [upR (by decide), upR (by decide), up_ne (by omega), a1]
  rw [m1, m2, m3, up_eq, up_eq]
  have k1 : ∀ v, up N 41 0 0 (20 + 4 * t) v 41 0 0 (20 + 4 * t + 1) = N 41 0 0 (20 + 4 * t + 1) := fun v => up_ne (by omega)
  have k2 : ∀ v u, up (up N 41 0 0 (20 + 4 * t) v) 41 0 0 (20 + 4 * t + 1) u 41 0 0 (100 + 24 * c) = N 41 0 0 (100 + 24 * c) := fun v u => by rw [up_ne (by omega), up_ne (by omega)]
  have k3 : ∀ v u z, up (up (up N 41 0 0 (20 + 4 * t) v) 41 0 0 (20 + 4 * t + 1) u) 41 0 0 (100 + 24 * c) z 41 0 0 (100 + 24 * c + 1) = N 41 0 0 (100 + 24 * c + 1) := fun v u z => by rw [up_ne (by omega), up_ne (by omega), up_ne (by omega)]
  rw [k1, k2, k3, ← Int32.sub_eq_add_neg]
  refine Sim.ret (h.world (by omega) ?_ (fun r w i k _ _ _ _ q => by rw [up_ne (by omega), up_ne (by omega), up_ne (by omega), up_ne (by omega)]) (fun r k q => by rw [up_ne (by omega), up_ne (by omega), up_ne (by omega), up_ne (by omega)]))
  rw [up_row, up_row, up_row, up_row]
  obtain ⟨n, n1, n2, rfl⟩ := in_lit (a := 1) (b := 9999) (by decide) hq (by decide)
  have r1 := h.1.compCoin (B' := B + 1) (c := c) (v := N 41 0 0 (100 + 24 * c) - nI n) (by omega) hc
  have e1 : cn (upd (N 41 0 0) (100 + 24 * c) (N 41 0 0 (100 + 24 * c) - nI n)) 0 = cn (N 41 0 0) 0 := cn_same (pk_un (by omega))
  have r2 := r1.town (B' := B + 1) (t := t) (k := 0) (v := N 41 0 0 (20 + 4 * t) + nI n) (by omega) (by omega) (by decide) (fun _ => (q2.add (m := 9999) ⟨n, by omega, rfl⟩).mono (by omega)) (by omega)
  have e2 : cn (upd (upd (N 41 0 0) (100 + 24 * c) (N 41 0 0 (100 + 24 * c) - nI n)) (20 + 4 * t + 0) (N 41 0 0 (20 + 4 * t) + nI n)) 0 = cn (N 41 0 0) 0 := (cn_same (pk_un (by omega))).trans e1
  have r3 := r2.town (B' := B + 1) (t := t) (k := 1) (v := N 41 0 0 (20 + 4 * t + 1) - nI n) (by omega) (by omega) (by decide) (by omega) (fun _ => q3.sub (by decide) (by omega) hy)
  have r4 := r3.compBread (B' := B + 1) (c := c) (v := N 41 0 0 (100 + 24 * c + 1) + nI n) (by omega) (by rw [cn_same (pk_un (by omega)), cn_same (pk_un (by omega)), cn_same (pk_un (by omega))]; exact hc) ((h5.add (m := 9999) ⟨n, by omega, rfl⟩).mono (by omega))
  have e3 : ∀ a b c' d : Int32, upd (upd (upd (upd (N 41 0 0) (20 + 4 * t) a) (20 + 4 * t + 1) b) (100 + 24 * c) c') (100 + 24 * c + 1) d = upd (upd (upd (upd (N 41 0 0) (100 + 24 * c) c') (20 + 4 * t + 0) a) (20 + 4 * t + 1) b) (100 + 24 * c + 1) d := by
    intro a b c' d
    rw [fa_upd_swap (upd (N 41 0 0) (20 + 4 * t) a) (by omega), fa_upd_swap (N 41 0 0) (by omega)] <;> rfl
  rw [e3]
  exact r4
