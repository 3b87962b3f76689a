/-! ===== renewals, advances, ransoms, kinds ===== -/
theorem XC.free5 {M : Mem} {w : Nat} {f : Row} (h : XC M w f) (hf : ¬ f 5 = 24) : cn f 5 < 24 := by
  have n5 := h.n5
  have b5 := h.b5
  exact (nI_ltI (b := 24) (by omega) (by decide)).mp (n5 ▸ (cnt_lt (b := 24) n5 b5 (by decide)).mpr hf)
theorem s_renew {B : Nat} {M N : Mem} (h : Rel B M N) (x1 x2 x3 : Int32) : Sim (Rel (B + 1)) (mF_renew x1 x2 x3 M) (mK_renew x1 x2 x3 N) := by
  unfold mF_renew mK_renew
  simp only [F_isBond_eq h.1.c, K_isBond_eq, F_within_eq, K_in_eq, B_isContract_eq, W_bondsFull_eq h.1.c, Option.bind_some, bI_ite, bindE]
  refine Sim.ite (fun hp => ?_) (fun _ => Sim.f1 h)
  refine Sim.ite (fun hq => ?_) (fun _ => Sim.f1 h)
  refine Sim.ite (fun hr => ?_) (fun _ => Sim.f1 h)
  obtain ⟨b, hb, rfl⟩ := h.1.c.in5 hp
  have b5 := h.1.c.b5
  have c5 : b < 24 := by omega
  obtain ⟨q1, q2, q3, q4, q5, q6, q7, q8, q9⟩ := h.1.b b hb
  have q10 : M 15 0 b 0 = N 41 0 0 (1056 + 14 * b) := q1 0 (by decide)
  rw [ixx_nI c5 (by decide), q10, q1 3 (by decide), q1 11 (by decide)]
  simp only [K_isContract_eq c5, K_bond_3 c5, K_bond_11 c5, K_isFull_eq, Option.bind_some, bI_ite]
  refine Sim.ite (fun hs => ?_) (fun _ => Sim.f1 h)
  refine Sim.ite (fun hk => ?_) (fun _ => Sim.f5 h)
  rcases q9.symm with e11 | e11
  · rw [e11, if_neg (by decide), if_pos rfl]
    exact Sim.f3 h
  rw [e11, if_pos rfl, if_neg (show ¬ (0 : Int32) = 1 by decide)]
  refine Sim.ite (fun _ => Sim.f4 h) (fun hf => ?_)
  have hb24 := h.1.c.free5 hf
  simp only [K_writes_11 c5, K_bond_1 c5, K_bond_3 c5, K_bond_4 c5, K_bond_5 c5, K_bond_6 c5, Option.bind_some]
  have r1 : RW (B + 1) (up M 15 0 b 11 1) 0 (up N 41 0 0 (1056 + 14 * b + 11) 1 41 0 0) := by
    rw [up_row]
    exact h.1.bondF (k := 11) (by omega) hb (by omega) (by omega) (fun _ => .inr rfl)
  have m1 : up M 15 0 b 11 1 15 0 b 1 = N 41 0 0 (1056 + 14 * b + 1) := by rw [up_ne (by omega), q1 1 (by decide)]
  have m4 : up M 15 0 b 11 1 15 0 b 4 = N 41 0 0 (1056 + 14 * b + 4) := by rw [up_ne (by omega), q1 4 (by decide)]
  have m3 : up M 15 0 b 11 1 15 0 b 3 = N 41 0 0 (1056 + 14 * b + 3) := by rw [up_ne (by omega), q1 3 (by decide)]
  have m5 : up M 15 0 b 11 1 15 0 b 5 = N 41 0 0 (1056 + 14 * b + 5) := by rw [up_ne (by omega), q1 5 (by decide)]
  have m6 : up M 15 0 b 11 1 15 0 b 6 = N 41 0 0 (1056 + 14 * b + 6) := by rw [up_ne (by omega), q1 6 (by decide)]
  have k : ∀ j, j < 11 → up N 41 0 0 (1056 + 14 * b + 11) 1 41 0 0 (1056 + 14 * b + j) = N 41 0 0 (1056 + 14 * b + j) := fun j hj => up_ne (by omega)
  rw [m1, m4, k 1 (by decide), k 3 (by decide), k 4 (by decide), k 5 (by decide), k 6 (by decide)]
  have gn : ∀ j, j < 9 → up N 41 0 0 (1056 + 14 * b + 11) 1 41 0 0 j = N 41 0 0 j := fun j hj => up_ne (by omega)
  have oM1 : ∀ r w i k, ¬ (r = 15 ∧ w = 0 ∧ i = b) → up M 15 0 b 11 1 r w i k = M r w i k := fun r w i k q => up_ne (by omega)
  have oN1 : ∀ r w i k, ¬ (r = 41) → up N 41 0 0 (1056 + 14 * b + 11) 1 r w i k = N r w i k := fun r w i k q => up_ne (by omega)
  generalize hMg : up M 15 0 b 11 1 = Mg at *
  generalize hNg : up N 41 0 0 (1056 + 14 * b + 11) 1 = Ng at *
  have d5 : cn (Ng 41 0 0) 5 = cn (N 41 0 0) 5 := cn_same (gn 5 (by decide))
  have d0 : cn (Ng 41 0 0) 0 = cn (N 41 0 0) 0 := cn_same (gn 0 (by decide))
  have d2 : cn (Ng 41 0 0) 2 = cn (N 41 0 0) 2 := cn_same (gn 2 (by decide))
  rw [F_newBond_eq (r1.c.e5.trans r1.c.n5) (by omega), K_newBond_eq r1.c.n5 (by omega)]
  simp only [Option.bind_some]
  have hlt : b < cn (Ng 41 0 0) 5 := by omega
  generalize hT : cn (Ng 41 0 0) 5 = T at *
  have v3 : ∀ a1 a2 a3, bB Mg T a1 a2 a3 15 0 b 3 = N 41 0 0 (1056 + 14 * b + 3) := fun a1 a2 a3 => by rw [bB_o (by omega), m3]
  have v5 : ∀ a1 a2 a3, bB Mg T a1 a2 a3 15 0 b 5 = N 41 0 0 (1056 + 14 * b + 5) := fun a1 a2 a3 => by rw [bB_o (by omega), m5]
  have v6 : ∀ a1 a2 a3, bB Mg T a1 a2 a3 15 0 b 6 = N 41 0 0 (1056 + 14 * b + 6) := fun a1 a2 a3 => by rw [bB_o (by omega), m6]
  have uo : ∀ (X : Mem) j v i, up X 15 0 T j v 15 0 b i = X 15 0 b i := fun X j v i => up_ne (by omega)
  have ub : ∀ (X : Mem) j v, up X 15 0 T j v 1 0 0 12 = X 1 0 0 12 := fun X j v => upR (by decide)
  simp only [uo, v3, v5, v6, ub]
  rw [bB_o (by omega), r1.c.e5, r1.c.n5, hT, nI_1]
  refine Sim.ret (h.world (by omega) ?_ (fun r w i k _ _ _ _ q => by rw [up_ne (by omega), up_ne (by omega), up_ne (by omega), up_ne (by omega), up_ne (by omega), up_ne (by omega), bB_o (by omega), oM1 _ _ _ _ (by omega)]) (fun r k q => by rw [kB_o (by omega), oN1 _ _ _ _ (by omega)]))
  subst hT
  obtain ⟨hct5, hne⟩ := q5 hk
  obtain ⟨n, n1, n2, rfl⟩ := in_lit (a := 1) (b := 400) (by decide) hq (by decide)
  have hd := q4.resolve_left (fun z => hne z.1)
  obtain ⟨_, ⟨la, hla, ela⟩, _⟩ := hd
  have hs2 : la + n ≤ 3000 := by
    rw [ela, nI_add] at hs
    exact (nI_leI (b := 3000) (by omega) (by decide)).mp hs
  refine r1.addBond (x1 := 2) (x2 := N 41 0 0 (1056 + 14 * b + 1)) (x3 := N 41 0 0 (1056 + 14 * b + 3) + 1) (x4 := N 41 0 0 (1056 + 14 * b + 3) + nI n) (x5 := N 41 0 0 (1056 + 14 * b + 4)) (x6 := N 41 0 0 (1056 + 14 * b + 5)) (x7 := N 41 0 0 (1056 + 14 * b + 6)) (x8 := nI b) (by omega) (by omega) (fun r i k _ _ q => by rw [up_ne (by omega), up_ne (by omega), up_ne (by omega), up_ne (by omega), up_ne (by omega), up_ne (by omega), bB_o (by omega)]) ?_ up_eq (fun k q => kB_o (by omega)) (fun k hk => kB_i hk) kB_5 ⟨⟨2, by decide, rfl⟩, by decide⟩ (by rw [d2]; exact q3) (.inr ?_) (fun _ => ⟨by rw [d0]; exact hct5, ?_⟩)
  · refine k12 ?_ ?_ ?_ ?_ ?_ ?_ ?_ ?_ ?_ ?_ ?_ ?_ <;> simp [up, bB, vB]
  · rw [ela, nI_1, nI_add]
    exact ⟨⟨la + 1, by omega, rfl⟩, ⟨la + n, by omega, rfl⟩, nI_le (by omega) (by omega)⟩
  · rw [ela, nI_1]
    intro z
    have := nI_pos (n := la + 1) (by omega)
    rw [z] at this
    exact this (by decide)
theorem s_advance {B : Nat} {M N : Mem} (h : Rel B M N) (x1 x2 : Int32) (hB : B < 10000) : Sim (Rel (B + 1)) (mF_advance x1 x2 M) (mK_advance x1 x2 N) := by
  unfold mF_advance mK_advance
  simp only [F_isBond_eq h.1.c, K_isBond_eq, F_within_eq, K_in_eq, B_isContract_eq, W_bondsFull_eq h.1.c, Option.bind_some, bI_ite, bindE]
  refine Sim.ite (fun hp => ?_) (fun _ => Sim.f1 h)
  refine Sim.ite (fun hq => ?_) (fun _ => Sim.f1 h)
  obtain ⟨b, hb, rfl⟩ := h.1.c.in5 hp
  have b5 := h.1.c.b5
  have b0 := h.1.c.b0
  have b2 := h.1.c.b2
  have c5 : b < 24 := by omega
  obtain ⟨q1, q2, q3, q4, q5, q6, q7, q8, q9⟩ := h.1.b b hb
  have q10 : M 15 0 b 0 = N 41 0 0 (1056 + 14 * b) := q1 0 (by decide)
  rw [ixx_nI c5 (by decide), q10, q1 5 (by decide), q1 1 (by decide)]
  simp only [K_isContract_eq c5, K_bond_5 c5, K_bond_1 c5, K_isFull_eq, Option.bind_some, bI_ite]
  refine Sim.ite (fun hk => ?_) (fun _ => Sim.f5 h)
  obtain ⟨⟨t, ht, et⟩, _⟩ := q5 hk
  obtain ⟨c, hc, ec⟩ := q3
  have t8 : t < 8 := by omega
  have k5 : c < 5 := by omega
  have z0 : M 3 0 t 0 = N 41 0 0 (20 + 4 * t) := (h.1.t t ht).1 0 (by decide)
  rw [et, ec, ixx_nI t8 (by decide), z0]
  simp only [K_ofTown_0 t8, K_bond_5 c5, K_bond_1 c5, K_isFull_eq, et, ec, W_coin_eq t8 k5, K_gives_eq t8 k5, Option.bind_some, bI_ite]
  refine Sim.ite (fun _ => Sim.f2 h) (fun hz => ?_)
  refine Sim.ite (fun _ => Sim.f4 h) (fun hf => ?_)
  have hb24 := h.1.c.free5 hf
  obtain ⟨n, n1, n2, rfl⟩ := in_lit (a := 1) (b := 9999) (by decide) hq (by decide)
  have hg := h.1.gives (B' := B + 1) (s := nI n) (by omega) ht hc (((h.1.t t ht).2.1.sub (by omega) (by omega) hz).mono (by omega))
  rw [← up_row, ← up_row] at hg
  have go : ∀ a v j, 1056 ≤ j ∨ j < 9 → up (up N 41 0 0 (20 + 4 * t) a) 41 0 0 (100 + 24 * c) v 41 0 0 j = N 41 0 0 j := fun a v j hj => by rw [up_ne (by omega), up_ne (by omega)]
  have mo : ∀ a v r w i k, ¬ (w = 0 ∧ (r = 3 ∨ r = 6)) → up (up M 3 0 t 0 a) 6 0 c 0 v r w i k = M r w i k := fun a v r w i k hj => by rw [up_ne (by omega), up_ne (by omega)]
  have no : ∀ a v r w i k, ¬ (r = 41) → up (up N 41 0 0 (20 + 4 * t) a) 41 0 0 (100 + 24 * c) v r w i k = N r w i k := fun a v r w i k hj => by rw [up_ne (by omega), up_ne (by omega)]
  simp only [K_bond_10 c5, K_bond_5 c5, K_bond_1 c5, K_writes_10 c5, Option.bind_some]
  have go' := go (N 41 0 0 (20 + 4 * t) - nI n) (N 41 0 0 (100 + 24 * c) + nI n)
  have mo' := mo (M 3 0 t 0 - nI n) (M 6 0 c 0 + nI n)
  have no' := no (N 41 0 0 (20 + 4 * t) - nI n) (N 41 0 0 (100 + 24 * c) + nI n)
  generalize hMg : up (up M 3 0 t 0 (M 3 0 t 0 - nI n)) 6 0 c 0 (M 6 0 c 0 + nI n) = Mg at *
  generalize hNg : up (up N 41 0 0 (20 + 4 * t) (N 41 0 0 (20 + 4 * t) - nI n)) 41 0 0 (100 + 24 * c) (N 41 0 0 (100 + 24 * c) + nI n) = Ng at *
  have d5 : cn (Ng 41 0 0) 5 = cn (N 41 0 0) 5 := cn_same (go' 5 (by omega))
  have d0 : cn (Ng 41 0 0) 0 = cn (N 41 0 0) 0 := cn_same (go' 0 (by omega))
  have d2 : cn (Ng 41 0 0) 2 = cn (N 41 0 0) 2 := cn_same (go' 2 (by omega))
  rw [mo' 15 0 b 10 (by omega), q1 10 (by decide), go' _ (by omega)]
  have r1 : RW (B + 1) (up Mg 15 0 b 10 (N 41 0 0 (1056 + 14 * b + 10) + nI n)) 0 (up Ng 41 0 0 (1056 + 14 * b + 10) (N 41 0 0 (1056 + 14 * b + 10) + nI n) 41 0 0) := by
    rw [up_row]
    exact hg.bondF (k := 10) (by omega) (by omega) (by omega) (fun _ => (q8.add (m := 9999) ⟨n, by omega, rfl⟩).mono (by omega)) (by omega)
  have m1 : up Mg 15 0 b 10 (N 41 0 0 (1056 + 14 * b + 10) + nI n) 15 0 b 1 = nI c := by rw [up_ne (by omega), mo' _ _ _ _ (by omega), q1 1 (by decide), ec]
  have m5 : up Mg 15 0 b 10 (N 41 0 0 (1056 + 14 * b + 10) + nI n) 15 0 b 5 = nI t := by rw [up_ne (by omega), mo' _ _ _ _ (by omega), q1 5 (by decide), et]
  have k1 : up Ng 41 0 0 (1056 + 14 * b + 10) (N 41 0 0 (1056 + 14 * b + 10) + nI n) 41 0 0 (1056 + 14 * b + 1) = nI c := by rw [up_ne (by omega), go' _ (by omega), ec]
  have k5' : up Ng 41 0 0 (1056 + 14 * b + 10) (N 41 0 0 (1056 + 14 * b + 10) + nI n) 41 0 0 (1056 + 14 * b + 5) = nI t := by rw [up_ne (by omega), go' _ (by omega), et]
  rw [m1, k1, k5']
  have gn : ∀ j, j < 9 → up Ng 41 0 0 (1056 + 14 * b + 10) (N 41 0 0 (1056 + 14 * b + 10) + nI n) 41 0 0 j = N 41 0 0 j := fun j hj => by rw [up_ne (by omega), go' _ (by omega)]
  have oM1 : ∀ r w i k, ¬ (w = 0 ∧ (r = 3 ∨ r = 6 ∨ (r = 15 ∧ i = b))) → up Mg 15 0 b 10 (N 41 0 0 (1056 + 14 * b + 10) + nI n) r w i k = M r w i k := fun r w i k q => by rw [up_ne (by omega), mo' _ _ _ _ (by omega)]
  have oN1 : ∀ r w i k, ¬ (r = 41) → up Ng 41 0 0 (1056 + 14 * b + 10) (N 41 0 0 (1056 + 14 * b + 10) + nI n) r w i k = N r w i k := fun r w i k q => by rw [up_ne (by omega), no' _ _ _ _ (by omega)]
  generalize hMh : up Mg 15 0 b 10 (N 41 0 0 (1056 + 14 * b + 10) + nI n) = Mh at *
  generalize hNh : up Ng 41 0 0 (1056 + 14 * b + 10) (N 41 0 0 (1056 + 14 * b + 10) + nI n) = Nh at *
  have d5' : cn (Nh 41 0 0) 5 = cn (N 41 0 0) 5 := cn_same (gn 5 (by omega))
  have d2' : cn (Nh 41 0 0) 2 = cn (N 41 0 0) 2 := cn_same (gn 2 (by omega))
  rw [F_newBond_eq (r1.c.e5.trans r1.c.n5) (by omega), K_newBond_eq r1.c.n5 (by omega)]
  simp only [Option.bind_some]
  have hlt : b < cn (Nh 41 0 0) 5 := by omega
  generalize hT : cn (Nh 41 0 0) 5 = T at *
  have v5 : ∀ a1 a2 a3, bB Mh T a1 a2 a3 15 0 b 5 = nI t := fun a1 a2 a3 => by rw [bB_o (by omega), m5]
  have ub : ∀ (X : Mem) j v, up X 15 0 T j v 1 0 0 12 = X 1 0 0 12 := fun X j v => upR (by decide)
  simp only [v5, ub]
  rw [bB_o (by omega), r1.c.e5, r1.c.n5, hT, nI_1]
  refine Sim.ret (h.world (by omega) ?_ (fun r w i k _ _ _ _ q => by rw [up_ne (by omega), up_ne (by omega), up_ne (by omega), bB_o (by omega), oM1 _ _ _ _ (by omega)]) (fun r k q => by rw [kB_o (by omega), oN1 _ _ _ _ (by omega)]))
  subst hT
  refine r1.addBond (x1 := 3) (x2 := nI c) (x3 := -1) (x4 := -1) (x5 := nI n) (x6 := nI t) (x7 := -1) (x8 := nI b) (by omega) (by omega) (fun r i k _ _ q => by rw [up_ne (by omega), up_ne (by omega), up_ne (by omega), bB_o (by omega)]) ?_ up_eq (fun k q => kB_o (by omega)) (fun k hk => kB_i hk) kB_5 ⟨⟨3, by decide, rfl⟩, by decide⟩ ⟨c, by omega, rfl⟩ (.inl ⟨rfl, rfl⟩) (fun q => by rcases q with q | q <;> exact absurd q (by decide))
  refine k12 ?_ ?_ ?_ ?_ ?_ ?_ ?_ ?_ ?_ ?_ ?_ ?_ <;> simp [up, bB, vB]
theorem isOf_at (n : Nat) (M : Mem) : ∀ k, k < 7 → ∀ a, a < 7 → k ≠ 0 → mB_isOf_7 (n + 4) (nI a) (nI k) 0 M = some (bI (nI a = 0 ∨ nI a = nI k ∨ (nI a = 1 ∧ nI k = 2)), M) := by
  intro k hk a ha h0
  rcases (by omega : k = 1 ∨ k = 2 ∨ k = 3 ∨ k = 4 ∨ k = 5 ∨ k = 6) with rfl | rfl | rfl | rfl | rfl | rfl <;>
  rcases (by omega : a = 0 ∨ a = 1 ∨ a = 2 ∨ a = 3 ∨ a = 4 ∨ a = 5 ∨ a = 6) with rfl | rfl | rfl | rfl | rfl | rfl | rfl <;> rfl
theorem s_as {B : Nat} {M N : Mem} (h : Rel B M N) (x1 x2 : Int32) : Sim (Rel (B + 1)) (mF_as x1 x2 M) (mK_as x1 x2 N) := by
  unfold mF_as mK_as mB_isOf mB_isOfb
  simp only [F_isBond_eq h.1.c, K_isBond_eq, F_within_eq, K_in_eq, Option.bind_some, bI_ite, bindE]
  refine Sim.ite (fun hp => ?_) (fun _ => Sim.f1 h)
  refine Sim.ite (fun hq => ?_) (fun _ => Sim.f1 h)
  obtain ⟨b, hb, rfl⟩ := h.1.c.in5 hp
  have b5 := h.1.c.b5
  have c5 : b < 24 := by omega
  obtain ⟨q1, ⟨⟨k, hk, ek⟩, hne⟩, -⟩ := h.1.b b hb
  have q10 : M 15 0 b 0 = N 41 0 0 (1056 + 14 * b) := q1 0 (by decide)
  obtain ⟨a, ha, rfl⟩ := in_lit0 (b := 6) (by decide) hq
  have z := isOf_at 99996 M k hk a ha (fun e => hne (by rw [ek, e]; rfl))
  rw [ixx_nI c5 (by decide), q10, ek]
  simp only [K_bond_0 c5, K_bond_4 c5, Option.bind_some]
  rw [show mB_isOf_7 fuel (nI a) (nI k) 0 M = _ from z, ek]
  simp only [Option.bind_some, bI_ite]
  rw [q1 4 (by decide)]
  by_cases e0 : nI a = 0
  · rw [if_pos (.inl e0), if_pos e0]
    exact Sim.ret h.up1
  · rw [if_neg e0]
    by_cases e1 : nI a = nI k
    · rw [if_pos (.inr (.inl e1)), if_pos e1]
      exact Sim.ret h.up1
    · rw [if_neg e1]
      by_cases e2 : nI a = 1
      · rw [if_pos e2]
        by_cases e3 : nI k = 2
        · rw [if_pos (.inr (.inr ⟨e2, e3⟩)), if_pos e3]
          exact Sim.ret h.up1
        · rw [if_neg (fun q => q.elim e0 (fun q => q.elim e1 (fun q => e3 q.2))), if_neg e3]
          exact Sim.f5 h
      · rw [if_neg (fun q => q.elim e0 (fun q => q.elim e1 (fun q => e2 q.1))), if_neg e2]
        exact Sim.f5 h
