/-! ===== far, march, twice ===== -/
theorem Rel.far {B B' : Nat} {M N N' : Mem} (h : Rel B M N) (hB : B ≤ B') (g : ∀ r w' i' k, r ≠ 46 → N' r w' i' k = N r w' i' k) : Rel B' M N' :=
  h.frame hB sM.rf (fun r k q => g r 0 0 k (by omega))
theorem s_far {B : Nat} {M N : Mem} (h : Rel B M N) (x1 x2 : Int32) : Sim (Rel (B + 1)) (mF_far x1 x2 M) (mK_far x1 x2 N) := by
  unfold mF_far mK_far
  simp only [F_isTown_eq h.1.c, K_isTown_eq, Option.bind_some, bI_ite, bindE]
  refine Sim.ite (fun hp => ?_) (fun _ => Sim.f1 h)
  refine Sim.ite (fun hq => ?_) (fun _ => Sim.f1 h)
  obtain ⟨a, ha, rfl⟩ := h.1.c.in0 hp
  obtain ⟨b, hb, rfl⟩ := h.1.c.in0 hq
  have b0 := h.1.c.b0
  obtain ⟨x, N', a1, a2, a3, a4⟩ := h.1.far (a := a) (b := b) (by omega) (by omega)
  have h' := h.far (Nat.le_refl B) a4
  rw [a1, a2]
  simp only [Option.bind_some]
  rcases a3 with rfl | a3
  · rw [if_pos rfl, if_neg (by decide), if_pos (by decide)]
    exact Sim.f2 h'
  · have e : nI x < (1000000 : Int32) := nI_lt (b := 1000000) (by omega) (by decide)
    rw [if_neg (show ¬ x = 1000000 by omega), if_pos e, if_neg (nI_pos (by omega))]
    exact Sim.ret h'.up1
theorem s_march {B : Nat} {M N : Mem} (h : Rel B M N) (x1 x2 : Int32) : Sim (Rel (B + 1)) (mF_march x1 x2 M) (mK_march x1 x2 N) := by
  unfold mF_march mK_march
  simp only [F_isTown_eq h.1.c, K_isTown_eq, F_isCompany_eq h.1.c, K_isCompany_eq, C_marches_eq, Option.bind_some, bI_ite, bindE]
  refine Sim.ite (fun hp => ?_) (fun _ => Sim.f1 h)
  refine Sim.ite (fun hq => ?_) (fun _ => Sim.f1 h)
  obtain ⟨c, hc, rfl⟩ := h.1.c.in2 hp
  obtain ⟨b, hb, rfl⟩ := h.1.c.in0 hq
  have b0 := h.1.c.b0
  have b2 := h.1.c.b2
  have c5 : c < 5 := by omega
  obtain ⟨⟨a0, a1, a2, a3, a8, a9, a11⟩, h2, h3, h4, h5, h6, h7, h8⟩ := h.1.p c hc
  simp only [ixx_nI c5 (show 5 < 2 ^ 31 by decide), K_own_2 c5, Option.bind_some, a3]
  refine Sim.ite (fun _ => Sim.f3 h) (fun hm0 => ?_)
  refine Sim.ite (fun _ => Sim.f3 h) (fun hne => ?_)
  obtain ⟨t, ht, et⟩ : isN (N 41 0 0 (100 + 24 * c + 2)) (cn (N 41 0 0) 0) := by
    rcases h6 with q | q
    · exact q
    · rw [q.1] at hm0
      exact absurd (by decide) hm0
  obtain ⟨x, N', d1, d2, d3, d4⟩ := h.1.far (a := t) (b := b) (by omega) (by omega)
  have h' := h.far (Nat.le_refl B) d4
  rw [et, d1, d2]
  simp only [Option.bind_some]
  rcases d3 with rfl | d3
  · rw [if_pos rfl, if_neg (by decide), if_pos (by decide)]
    exact Sim.f2 h'
  · have e : nI x < (1000000 : Int32) := nI_lt (b := 1000000) (by omega) (by decide)
    rw [if_neg (show ¬ x = 1000000 by omega), if_pos e, if_neg (nI_pos (by omega))]
    simp only [K_sets_2 c5, K_sets_3 c5, K_sets_4 c5, Option.bind_some, up_eq]
    have eN : N' 41 0 0 = N 41 0 0 := funext fun k => d4 41 0 0 k (by decide)
    have y1 : up (up M 6 0 c 3 (-1)) 6 0 c 4 (nI b) 1 0 0 0 = N 41 0 0 6 := by rw [upR (by decide), upR (by decide), h.1.c.e6]
    have y2 : up (up N' 41 0 0 (100 + 24 * c + 2) (-1)) 41 0 0 (100 + 24 * c + 3) (nI b) 41 0 0 6 = N 41 0 0 6 := by rw [up_ne (by omega), up_ne (by omega), eN]
    have y3 : ∀ v, up (up (up N' 41 0 0 (100 + 24 * c + 2) (-1)) 41 0 0 (100 + 24 * c + 3) (nI b)) 41 0 0 (100 + 24 * c + 4) v 41 0 0 6 = N 41 0 0 6 := fun v => by rw [up_ne (by omega), up_ne (by omega), up_ne (by omega), eN]
    rw [y1, y2, y3]
    refine Sim.ret (h'.world (by omega) ?_ (fun r w i k _ _ _ _ q => by rw [up_ne (by omega), up_ne (by omega), up_ne (by omega)]) (fun r k q => by rw [up_ne (by omega), up_ne (by omega), up_ne (by omega)]))
    rw [up_row, up_row, up_row, eN]
    generalize hv : N 41 0 0 6 + nI x = v
    have e0 : cn (upd (upd (upd (N 41 0 0) (100 + 24 * c + 2) (-1)) (100 + 24 * c + 3) (nI b)) (100 + 24 * c + 4) v) 0 = cn (N 41 0 0) 0 := by rw [cn_same (pk_un (by omega)), cn_same (pk_un (by omega)), cn_same (pk_un (by omega))]
    refine h.1.compAt (c := c) (by omega) (fun r i k _ _ q => by rw [up_ne (by omega), up_ne (by omega), up_ne (by omega)]) (fun k hk => by rw [pk_un (by omega), pk_un (by omega), pk_un (by omega)]) c5 ?_
    have fo : ∀ k, k ≠ 2 → k ≠ 3 → k ≠ 4 → upd (upd (upd (N 41 0 0) (100 + 24 * c + 2) (-1)) (100 + 24 * c + 3) (nI b)) (100 + 24 * c + 4) v (100 + 24 * c + k) = N 41 0 0 (100 + 24 * c + k) := fun k q1 q2 q3 => by rw [pk_un (by omega), pk_un (by omega), pk_un (by omega)]
    have fz : upd (upd (upd (N 41 0 0) (100 + 24 * c + 2) (-1)) (100 + 24 * c + 3) (nI b)) (100 + 24 * c + 4) v (100 + 24 * c) = N 41 0 0 (100 + 24 * c) := fo 0 (by decide) (by decide) (by decide)
    have mo : ∀ r k, ¬ (r = 6 ∧ (k = 3 ∨ k = 4 ∨ k = 5)) → up (up (up M 6 0 c 3 (-1)) 6 0 c 4 (nI b)) 6 0 c 5 v r 0 c k = M r 0 c k := fun r k q => by rw [up_ne (by omega), up_ne (by omega), up_ne (by omega)]
    have f2 : upd (upd (upd (N 41 0 0) (100 + 24 * c + 2) (-1)) (100 + 24 * c + 3) (nI b)) (100 + 24 * c + 4) v (100 + 24 * c + 2) = -1 := by rw [pk_un (by omega), pk_un (by omega), pk_us]
    have f3 : upd (upd (upd (N 41 0 0) (100 + 24 * c + 2) (-1)) (100 + 24 * c + 3) (nI b)) (100 + 24 * c + 4) v (100 + 24 * c + 3) = nI b := by rw [pk_un (by omega), pk_us]
    have f4 : upd (upd (upd (N 41 0 0) (100 + 24 * c + 2) (-1)) (100 + 24 * c + 3) (nI b)) (100 + 24 * c + 4) v (100 + 24 * c + 4) = v := pk_us
    unfold XP1
    rw [fz, f2, f3, f4, fo 1 (by decide) (by decide) (by decide), fo 5 (by decide) (by decide) (by decide), fo 6 (by decide) (by decide) (by decide), fo 7 (by decide) (by decide) (by decide), fo 8 (by decide) (by decide) (by decide), fo 9 (by decide) (by decide) (by decide), e0, cn_same (fo 9 (by decide) (by decide) (by decide)), mo 6 0 (by omega), mo 6 1 (by omega), mo 6 2 (by omega), mo 6 8 (by omega), mo 6 9 (by omega), mo 6 10 (by omega), mo 6 11 (by omega)]
    refine ⟨⟨a0, a1, a2, ?_, a8, a9, a11⟩, fun _ => ⟨?_, ?_⟩, h3, fun j hj => ?_, h5.mono (by omega), .inr ⟨rfl, b, hb, rfl⟩, h7, h8⟩
    · rw [up_ne (by omega), up_ne (by omega), up_eq]
    · rw [up_ne (by omega), up_eq]
    · rw [up_eq]
    · rw [mo 7 j (by omega), pk_un (by omega), pk_un (by omega), pk_un (by omega)]
      exact h4 j hj
/-- who shows a mark has mustered -/
theorem RW.shown {B w : Nat} {M : Mem} {f : Row} (h : RW B M w f) {c : Nat} (hc : c < cn f 2) {x : Int32} (z : ¬ shC f x c = 0) : isN (f (100 + 24 * c + 7)) 3001 ∧ isN (f (100 + 24 * c + 8)) (cn f 0) ∧ M 6 w c 9 = f (100 + 24 * c + 7) ∧ M 6 w c 10 = f (100 + 24 * c + 8) := by
  obtain ⟨⟨a0, a1, a2, a3, a8, a9, a11⟩, h2, h3, h4, h5, h6, h7, h8⟩ := h.p c hc
  rcases h8 with q | q
  · refine absurd ?_ z
    unfold shC
    rw [cn_nI (n := 0) q.2 (by decide)]
    rfl
  · exact ⟨q.1, q.2, a9, h3 (q.1.ge (by decide))⟩
theorem sub_n {p q : Nat} (h : p < q) (hq : q ≤ 3000) : nI p - nI q < 0 ∧ -(nI p - nI q) = nI (q - p) ∧ 0 - (nI p - nI q) = nI (q - p) := by
  have tp := nI_toInt (n := p) (by omega)
  have tq := nI_toInt (n := q) (by omega)
  have t := fb_subI (x := nI p) (y := nI q) (by rw [tp, tq]; omega) (by rw [tp, tq]; omega)
  rw [tp, tq] at t
  have e : -(nI p - nI q) = nI (q - p) := by rw [Int32.neg_sub, pk_sub (by omega)]
  refine ⟨Int32.lt_iff_toInt_lt.mpr ?_, e, ?_⟩
  · rw [t]
    show (p : Int) - (q : Int) < 0
    omega
  · rw [Int32.zero_sub, e]
theorem s_twice {B : Nat} {M N : Mem} (h : Rel B M N) (x1 x2 x3 : Int32) : Sim (Rel (B + 1)) (mF_twice x1 x2 x3 M) (mK_twice x1 x2 x3 N) := by
  unfold mF_twice mK_twice mK_twiceOf
  simp only [F_isMark_eq, K_in_eq, F_isCompany_eq h.1.c, K_isCompany_eq, Option.bind_some, bI_ite, bindE]
  refine Sim.ite (fun hp => ?_) (fun _ => Sim.f1 h)
  refine Sim.ite (fun hq => ?_) (fun _ => Sim.f1 h)
  refine Sim.ite (fun hr => ?_) (fun _ => Sim.f1 h)
  refine Sim.ite (fun _ => Sim.f1 h) (fun hne => ?_)
  obtain ⟨a, ha, rfl⟩ := h.1.c.in2 hq
  obtain ⟨b, hb, rfl⟩ := h.1.c.in2 hr
  have b0 := h.1.c.b0
  have b2 := h.1.c.b2
  have a5 : a < 5 := by omega
  have b5 : b < 5 := by omega
  rw [ixx_nI a5 (by decide), ixx_nI b5 (by decide), h.1.shows ha, h.1.isShown ha]
  simp only [Option.bind_some, h.1.shows hb, h.1.isShown hb, K_own_7 a5, K_own_7 b5, K_own_8 a5, K_own_8 b5]
  refine Sim.ite (fun _ => Sim.ret h.up1) (fun za => ?_)
  refine Sim.ite (fun _ => Sim.ret h.up1) (fun zb => ?_)
  obtain ⟨⟨p, hp1, ep⟩, ⟨s, hs, es⟩, m1, m2⟩ := h.1.shown ha za
  obtain ⟨⟨q, hq1, eq⟩, ⟨t, ht, et⟩, m3, m4⟩ := h.1.shown hb zb
  simp only [m1, m2, m3, m4, ep, es, eq, et]
  obtain ⟨x, N', d1, d2, d3, d4⟩ := h.1.far (a := s) (b := t) (by omega) (by omega)
  have h' := h.far (Nat.le_succ B) d4
  rw [d1, d2]
  simp only [Option.bind_some]
  obtain ⟨g, hg, eg, ek⟩ : ∃ g, g ≤ 3000 ∧ (if 0 ≤ nI p - nI q then nI p - nI q else 0 - (nI p - nI q)) = nI g ∧ ∀ (y : Int32) (u v : Option (Int32 × Mem)), (if nI p - nI q < 0 then (if -(nI p - nI q) < y then u else v) else (if nI p - nI q < y then u else v)) = if nI g < y then u else v := by
    by_cases z : p < q
    · obtain ⟨s1, s2, s3⟩ := sub_n z (by omega)
      refine ⟨q - p, by omega, ?_, fun y u v => ?_⟩
      · rw [if_neg (Int32.not_le.mpr s1), s3]
      · rw [if_pos s1, s2]
    · have e : nI p - nI q = nI (p - q) := pk_sub (by omega)
      have n0 : ¬ nI (p - q) < 0 := nI_pos (by omega)
      refine ⟨p - q, by omega, ?_, fun y u v => ?_⟩
      · rw [e, if_pos (Int32.not_lt.mp n0)]
      · rw [e, if_neg n0]
  rw [eg, ek]
  rcases d3 with rfl | d3
  · have e : nI g < nI 1000000 := nI_lt (by omega) (by decide)
    rw [if_pos e, if_pos rfl, if_pos (by decide)]
    exact Sim.ret h'
  · rw [if_neg (show ¬ x = 1000000 by omega), if_neg (nI_pos (by omega))]
    exact Sim.ite (fun _ => Sim.ret h') (fun _ => Sim.ret h')
