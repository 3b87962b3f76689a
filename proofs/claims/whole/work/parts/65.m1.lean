/-! ===== methods: towns ===== -/
theorem in_lit0 {x : Int32} {b : Nat} (hb : b < 2 ^ 31) (h : 0 ≤ x ∧ x ≤ nI b) : isN x (b + 1) := by
  obtain ⟨j, _, h2, h3⟩ := in_lit (a := 0) hb h (by decide)
  exact ⟨j, by omega, h3⟩
theorem s_wall {B : Nat} {M N : Mem} (h : Rel B M N) (x1 x2 x3 : Int32) : Sim (Rel (B + 1)) (mF_wall x1 x2 x3 M) (mK_wall x1 x2 x3 N) := by
  unfold mF_wall mK_wall
  simp only [F_isTown_eq h.1.c, K_isTown_eq, F_within_eq, K_in_eq, Option.bind_some, bI_ite, bindE]
  refine Sim.ite (fun hp => ?_) (fun _ => Sim.f1 h)
  refine Sim.ite (fun hq => ?_) (fun _ => Sim.f1 h)
  refine Sim.ite (fun hr => ?_) (fun _ => Sim.f1 h)
  obtain ⟨t, ht, rfl⟩ := h.1.c.in0 hp
  have b0 := h.1.c.b0
  have t8 : t < 8 := by omega
  rw [ixx_nI t8 (by decide), ixx_nI t8 (by decide), iT2 t8, iT3 t8]
  refine Sim.ret (h.world (by omega) ?_ (fun r w i k _ _ _ _ q => by rw [up_ne (by omega), up_ne (by omega)]) (fun r k q => by rw [up_ne (by omega), up_ne (by omega)]))
  rw [up_row, up_row]
  refine RW.town (k := 3) (B := B + 1) (RW.town (k := 2) h.1 (by omega) ht (by omega) (by omega) (by omega)) (by omega) ?_ (by omega) (by omega) (by omega)
  rw [cn_same (f := N 41 0 0) (pk_un (by omega))]
  exact ht
theorem s_harvest {B : Nat} {M N : Mem} (h : Rel B M N) (x1 x2 : Int32) : Sim (Rel (B + 1)) (mF_harvest x1 x2 M) (mK_harvest x1 x2 N) := by
  unfold mF_harvest mK_harvest
  simp only [F_isTown_eq h.1.c, K_isTown_eq, F_within_eq, K_in_eq, Option.bind_some, bI_ite, bindE]
  refine Sim.ite (fun hp => ?_) (fun _ => Sim.f1 h)
  refine Sim.ite (fun hq => ?_) (fun _ => Sim.f1 h)
  obtain ⟨t, ht, rfl⟩ := h.1.c.in0 hp
  have b0 := h.1.c.b0
  have t8 : t < 8 := by omega
  obtain ⟨q1, q2, q3⟩ := h.1.t t ht
  rw [ixx_nI t8 (by decide), q1 1 (by decide)]
  simp only [K_ofTown_1 t8, K_townGets_1 t8, Option.bind_some]
  refine Sim.ite (fun hr => ?_) (fun _ => Sim.f4 h)
  rw [up_eq, up_eq]
  refine Sim.ret (h.world (by omega) ?_ (fun r w i k _ _ _ _ q => up_ne (by omega)) (fun r k q => up_ne (by omega)))
  rw [up_row]
  refine RW.town (k := 1) h.1 (by omega) ht (by omega) (by omega) (fun _ => ?_)
  obtain ⟨n, n1, n2, rfl⟩ := in_lit (a := 1) (b := 9999) (by decide) hq (by decide)
  obtain ⟨a, ha, e⟩ := q3
  rw [e, nI_add] at hr ⊢
  have : a + n ≤ 999999 := (nI_leI (b := 999999) (by omega) (by decide)).mp hr
  exact ⟨a + n, by omega, rfl⟩
theorem s_town {B : Nat} {M N : Mem} (h : Rel B M N) (x1 x2 : Int32) : Sim (Rel (B + 1)) (mF_town x1 x2 M) (mK_town x1 x2 N) := by
  unfold mF_town mK_town mT_begin
  simp only [F_within_eq, K_in_eq, Option.bind_some, bI_ite, bindE]
  refine Sim.ite (fun hp => ?_) (fun _ => Sim.f1 h)
  refine Sim.ite (fun hq => ?_) (fun _ => Sim.f1 h)
  have b0 := h.1.c.b0
  have e0 := h.1.c.e0
  have n0 := h.1.c.n0
  rw [e0]
  by_cases hf : N 41 0 0 0 = 8
  · rw [if_pos hf, if_neg (by rw [hf]; decide)]
    exact Sim.f4 h
  have hl : N 41 0 0 0 < 8 := (cnt_lt (b := 8) n0 b0 (by decide)).mpr hf
  rw [if_neg hf, if_pos hl]
  have t8 : cn (N 41 0 0) 0 < 8 := by
    rw [n0] at hl
    exact (nI_ltI (b := 8) (by omega) (by decide)).mp hl
  rw [n0, ixx_nI t8 (by decide), iT0 t8, iT1 t8, iT2 t8, iT3 t8]
  generalize hT : cn (N 41 0 0) 0 = T at *
  have eM : up (up (up (up M 3 0 T 0 x1) 3 0 T 1 x2) 3 0 T 2 100) 3 0 T 3 0 1 0 0 2 = nI T := by
    rw [up_ne (by omega), up_ne (by omega), up_ne (by omega), up_ne (by omega), e0, n0]
  rw [eM, nI_1]
  refine Sim.ret (h.world (by omega) ?_ (fun r w i k _ _ _ _ q => by rw [up_ne (by omega), up_ne (by omega), up_ne (by omega), up_ne (by omega), up_ne (by omega)]) (fun r k q => by rw [up_ne (by omega), up_ne (by omega), up_ne (by omega), up_ne (by omega), up_ne (by omega)]))
  rw [up_row, up_row, up_row, up_row, up_row]
  have hc : cn (upd (upd (upd (upd (upd (N 41 0 0) 0 (nI (T + 1))) (20 + 4 * T) x1) (20 + 4 * T + 1) x2) (20 + 4 * T + 2) 100) (20 + 4 * T + 3) 0) 0 = T + 1 := by
    refine cn_nI ?_ (by omega)
    rw [pk_un (by omega), pk_un (by omega), pk_un (by omega), pk_un (by omega), pk_us]
  subst hT
  refine h.1.newTown (by omega) (fun r i k _ _ q => by rw [up_ne (by omega), up_ne (by omega), up_ne (by omega), up_ne (by omega), up_ne (by omega)]) (fun k q => by rw [pk_un (by omega), pk_un (by omega), pk_un (by omega), pk_un (by omega), pk_un (by omega)]) ?_ hc ?_
  · refine h.1.c.set (j := 0) (n := cn (N 41 0 0) 0 + 1) (by decide) t8 (fun k hk e => ?_) (fun k hk e => ?_) up_eq ?_
    · have : slC k ≠ 2 := by
        rcases (by omega : k = 1 ∨ k = 2 ∨ k = 3 ∨ k = 4 ∨ k = 5 ∨ k = 6 ∨ k = 7 ∨ k = 8) with rfl | rfl | rfl | rfl | rfl | rfl | rfl | rfl <;> decide
      rw [up_ne (by omega), up_ne (by omega), up_ne (by omega), up_ne (by omega), up_ne (by omega)]
    · rw [pk_un (by omega), pk_un (by omega), pk_un (by omega), pk_un (by omega), pk_un (by omega)]
    · rw [pk_un (by omega), pk_un (by omega), pk_un (by omega), pk_un (by omega), pk_us]
  · refine ⟨fun k hk => ?_, ?_, ?_⟩
    · rcases (by omega : k = 0 ∨ k = 1 ∨ k = 2 ∨ k = 3) with rfl | rfl | rfl | rfl <;> simp [up, upd]
    · have : isN x1 100000 := in_lit0 (b := 99999) (by decide) hp
      rw [pk_un (by omega), pk_un (by omega), pk_un (by omega), pk_us]
      exact this.mono (by omega)
    · have : isN x2 100000 := in_lit0 (b := 99999) (by decide) hq
      rw [pk_un (by omega), pk_un (by omega), pk_us]
      exact this.mono (by omega)
