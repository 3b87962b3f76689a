/-! ===== coin, what is owed; bonds that need them ===== -/
theorem W_coin_eq {t c w : Nat} (ht : t < 8) (hc : c < 5) (s : Int32) (M : Mem) : mW_coinToCompany w (nI t) (nI c) s M = some (up (up M 3 w t 0 (M 3 w t 0 - s)) 6 w c 0 (M 6 w c 0 + s)) := by
  unfold mW_coinToCompany
  rw [ixx_nI ht (by decide), ixx_nI hc (by decide), upR (by decide)]
theorem K_gives_eq {t c : Nat} (ht : t < 8) (hc : c < 5) (s : Int32) (N : Mem) : mK_gives (nI t) (nI c) s N = some (up (up N 41 0 0 (20 + 4 * t) (N 41 0 0 (20 + 4 * t) - s)) 41 0 0 (100 + 24 * c) (N 41 0 0 (100 + 24 * c) + s)) := by
  unfold mK_gives
  simp only [K_townGets_0 ht, K_own_0 hc, K_sets_0 hc, Option.bind_some]
  rw [up_ne (by omega), ← Int32.sub_eq_add_neg]
theorem RW.gives {B B' : Nat} {M : Mem} {w : Nat} {f : Row} {t c : Nat} {s : Int32} (h : RW B M w f) (hB : B ≤ B') (ht : t < cn f 0) (hc : c < cn f 2) (hv : isN (f (20 + 4 * t) - s) (100000 + 10000 * B')) : RW B' (up (up M 3 w t 0 (M 3 w t 0 - s)) 6 w c 0 (M 6 w c 0 + s)) w (upd (upd f (20 + 4 * t) (f (20 + 4 * t) - s)) (100 + 24 * c) (f (100 + 24 * c) + s)) := by
  have q0 : M 3 w t 0 = f (20 + 4 * t) := (h.t t ht).1 0 (by decide)
  have a0 := (h.p c hc).1.1
  rw [q0, a0]
  have r1 : RW B' (up M 3 w t 0 (f (20 + 4 * t) - s)) w (upd f (20 + 4 * t) (f (20 + 4 * t) - s)) := h.town (k := 0) hB ht (by decide) (fun _ => hv) (by omega)
  have b0 := h.c.b0
  refine r1.compCoin (Nat.le_refl _) ?_
  rw [cn_same (pk_un (by omega))]
  exact hc
/-- so much less is owed -/
def oM (M : Mem) (w b : Nat) (x : Int32) : Mem := if M 15 w b 8 - x = 0 then up (up M 15 w b 8 (M 15 w b 8 - x)) 15 w b 9 (-1) else up M 15 w b 8 (M 15 w b 8 - x)
def oN (N : Mem) (b : Nat) (x : Int32) : Mem := if N 41 0 0 (1056 + 14 * b + 8) - x = 0 then up (up N 41 0 0 (1056 + 14 * b + 8) (N 41 0 0 (1056 + 14 * b + 8) - x)) 41 0 0 (1056 + 14 * b + 9) (-1) else up N 41 0 0 (1056 + 14 * b + 8) (N 41 0 0 (1056 + 14 * b + 8) - x)
theorem B_oweLess_eq (w b : Nat) (x : Int32) (M : Mem) : mB_oweLess w b x M = some (oM M w b x) := by
  unfold mB_oweLess oM
  simp only [up_eq]
  split <;> rfl
theorem K_owes_eq {b : Nat} (hb : b < 24) (x : Int32) (N : Mem) : mK_owes (nI b) x N = some (oN N b x) := by
  unfold mK_owes oN
  simp only [K_bond_8 hb, K_writes_8 hb, K_writes_9 hb, Option.bind_some, up_eq]
  split <;> rfl
theorem oM_8 {M : Mem} {w b : Nat} {x : Int32} : oM M w b x 15 w b 8 = M 15 w b 8 - x := by
  unfold oM
  split
  · rw [up_ne (by omega), up_eq]
  · rw [up_eq]
theorem oN_8 {N : Mem} {b : Nat} {x : Int32} : oN N b x 41 0 0 (1056 + 14 * b + 8) = N 41 0 0 (1056 + 14 * b + 8) - x := by
  unfold oN
  split
  · rw [up_ne (by omega), up_eq]
  · rw [up_eq]
theorem oM_o {M : Mem} {w b : Nat} {x : Int32} {r w' i k : Nat} (h : ¬ (r = 15 ∧ w' = w ∧ i = b ∧ (k = 8 ∨ k = 9))) : oM M w b x r w' i k = M r w' i k := by
  unfold oM
  split
  · rw [up_ne (by omega), up_ne (by omega)]
  · rw [up_ne (by omega)]
theorem oN_o {N : Mem} {b : Nat} {x : Int32} {r w' i k : Nat} (h : ¬ (r = 41 ∧ w' = 0 ∧ i = 0 ∧ (k = 1056 + 14 * b + 8 ∨ k = 1056 + 14 * b + 9))) : oN N b x r w' i k = N r w' i k := by
  unfold oN
  split
  · rw [up_ne (by omega), up_ne (by omega)]
  · rw [up_ne (by omega)]
theorem RW.owes {B B' : Nat} {M N : Mem} {w : Nat} {b n : Nat} (h : RW B M w (N 41 0 0)) (hB : B ≤ B') (hb : b < cn (N 41 0 0) 5) (hn : n < 2 ^ 31) (hl : ¬ N 41 0 0 (1056 + 14 * b + 8) < nI n) : RW B' (oM M w b (nI n)) w (oN N b (nI n) 41 0 0) := by
  obtain ⟨q1, q2, q3, q4, q5, q6, q7, q8, q9⟩ := h.b b hb
  have b6 := h.c.b6
  have b5 := h.c.b5
  have hd : cn (N 41 0 0) 6 / 30 ≤ 100 := by omega
  have hv := q6.sub (by omega) hn hl
  unfold oM oN
  rw [q1 8 (by decide)]
  by_cases e : N 41 0 0 (1056 + 14 * b + 8) - nI n = 0
  · rw [if_pos e, if_pos e, up_row, up_row, e]
    exact h.bondO hB hb ⟨0, by omega, rfl⟩ (.inl ⟨rfl, rfl⟩)
  · rw [if_neg e, if_neg e, up_row]
    have hne : N 41 0 0 (1056 + 14 * b + 8) ≠ 0 := by
      intro q
      rw [q] at hl e
      have : n = 0 := by
        rcases Nat.eq_zero_or_pos n with z | z
        · exact z
        · exact absurd (nI_lt (a := 0) z hn) hl
      subst this
      exact e rfl
    have hs := q7.resolve_left (fun q => hne q.1)
    have r := h.bondO hB hb hv (.inr ⟨e, hs.2⟩)
    have eM : up (up M 15 w b 8 (N 41 0 0 (1056 + 14 * b + 8) - nI n)) 15 w b 9 (N 41 0 0 (1056 + 14 * b + 9)) = up M 15 w b 8 (N 41 0 0 (1056 + 14 * b + 8) - nI n) := by
      funext r w' i k
      by_cases z : r = 15 ∧ w' = w ∧ i = b ∧ k = 9
      · obtain ⟨rfl, rfl, rfl, rfl⟩ := z
        rw [up_eq, up_ne (by omega), q1 9 (by decide)]
      · rw [up_ne z]
    rw [eM, fa_upd_same (pk_un (by omega))] at r
    exact r
theorem s_stop {B : Nat} {M N : Mem} (h : Rel B M N) (x1 x2 : Int32) : Sim (Rel (B + 1)) (mF_stop x1 x2 M) (mK_stop x1 x2 N) := by
  unfold mF_stop mK_stop
  simp only [F_isBond_eq h.1.c, K_isBond_eq, F_within_eq, K_in_eq, B_isContract_eq, B_oweLess_eq, Option.bind_some, bI_ite, bindE]
  refine Sim.ite (fun hp => ?_) (fun _ => Sim.f1 h)
  refine Sim.ite (fun hq => ?_) (fun _ => Sim.f1 h)
  obtain ⟨b, hb, rfl⟩ := h.1.c.in5 hp
  have b5 := h.1.c.b5
  have c5 : b < 24 := by omega
  have q1 := (h.1.b b hb).1
  have q10 : M 15 0 b 0 = N 41 0 0 (1056 + 14 * b) := q1 0 (by decide)
  rw [ixx_nI c5 (by decide), q10, q1 8 (by decide)]
  simp only [K_isContract_eq c5, K_bond_8 c5, K_owes_eq c5, Option.bind_some, bI_ite, oM_8, oN_8]
  refine Sim.ite (fun hr => ?_) (fun _ => Sim.f5 h)
  refine Sim.ite (fun _ => Sim.f3 h) (fun hl => ?_)
  rw [q1 8 (by decide)]
  obtain ⟨n, n1, n2, rfl⟩ := in_lit (a := 1) (b := 9999) (by decide) hq (by decide)
  refine Sim.ret (h.world (by omega) (h.1.owes (by omega) hb (by omega) hl) (fun r w i k _ _ _ _ q => oM_o (by omega)) (fun r k q => oN_o (by omega)))
theorem s_pay {B : Nat} {M N : Mem} (h : Rel B M N) (x1 x2 : Int32) (hB : B < 10000) : Sim (Rel (B + 1)) (mF_pay x1 x2 M) (mK_pay x1 x2 N) := by
  unfold mF_pay mK_pay
  simp only [F_isBond_eq h.1.c, K_isBond_eq, F_within_eq, K_in_eq, B_isContract_eq, B_oweLess_eq, Option.bind_some, bI_ite, bindE]
  refine Sim.ite (fun hp => ?_) (fun _ => Sim.f1 h)
  refine Sim.ite (fun hq => ?_) (fun _ => Sim.f1 h)
  obtain ⟨b, hb, rfl⟩ := h.1.c.in5 hp
  have b5 := h.1.c.b5
  have b0 := h.1.c.b0
  have b2 := h.1.c.b2
  have c5 : b < 24 := by omega
  obtain ⟨q1, q2, ⟨c, hc, ec⟩, q4, q5, q6, q7, q8, q9⟩ := h.1.b b hb
  have q10 : M 15 0 b 0 = N 41 0 0 (1056 + 14 * b) := q1 0 (by decide)
  rw [ixx_nI c5 (by decide), q10, q1 8 (by decide), q1 5 (by decide), q1 1 (by decide)]
  simp only [K_isContract_eq c5, K_bond_8 c5, K_bond_5 c5, K_bond_1 c5, K_owes_eq c5, Option.bind_some, bI_ite, oM_8, oN_8]
  refine Sim.ite (fun hr => ?_) (fun _ => Sim.f5 h)
  refine Sim.ite (fun _ => Sim.f3 h) (fun hl => ?_)
  obtain ⟨⟨t, ht, et⟩, _⟩ := q5 hr
  have t8 : t < 8 := by omega
  have k5 : c < 5 := by omega
  have z0 : M 3 0 t 0 = N 41 0 0 (20 + 4 * t) := (h.1.t t ht).1 0 (by decide)
  rw [et, ec, ixx_nI t8 (by decide), z0]
  simp only [K_ofTown_0 t8, K_bond_5 c5, K_bond_1 c5, et, ec, W_coin_eq t8 k5, K_gives_eq t8 k5, Option.bind_some]
  refine Sim.ite (fun _ => Sim.f2 h) (fun hz => ?_)
  obtain ⟨n, n1, n2, rfl⟩ := in_lit (a := 1) (b := 9999) (by decide) hq (by decide)
  have hg := h.1.gives (B' := B + 1) (s := nI n) (by omega) ht hc (((h.1.t t ht).2.1.sub (by omega) (by omega) hz).mono (by omega))
  rw [← up_row, ← up_row] at hg
  have eb : ∀ a v, up (up N 41 0 0 (20 + 4 * t) a) 41 0 0 (100 + 24 * c) v 41 0 0 (1056 + 14 * b + 8) = N 41 0 0 (1056 + 14 * b + 8) := fun a v => by rw [up_ne (by omega), up_ne (by omega)]
  have em : ∀ a v, up (up M 3 0 t 0 a) 6 0 c 0 v 15 0 b 8 = N 41 0 0 (1056 + 14 * b + 8) := fun a v => by rw [upR (by decide), upR (by decide), q1 8 (by decide)]
  rw [eb, em]
  refine Sim.ret (h.world (by omega) (hg.owes (Nat.le_refl _) ?_ (by omega) (by rw [eb]; exact hl)) (fun r w i k _ _ _ _ q => by rw [oM_o (by omega), up_ne (by omega), up_ne (by omega)]) (fun r k q => by rw [oN_o (by omega), up_ne (by omega), up_ne (by omega)]))
  rw [up_row, up_row, cn_same (pk_un (by omega)), cn_same (pk_un (by omega))]
  exact hb
theorem s_safe {B : Nat} {M N : Mem} (h : Rel B M N) (x1 x2 x3 x4 x5 : Int32) (hB : B < 10000) : Sim (Rel (B + 1)) (mF_safe x1 x2 x3 x4 x5 M) (mK_safe x1 x2 x3 x4 x5 N) := by
  unfold mF_safe mK_safe
  simp only [F_isCompany_eq h.1.c, K_isCompany_eq, F_isTown_eq h.1.c, K_isTown_eq, F_within_eq, K_in_eq, F_areDays_eq, K_areDays_eq, W_bondsFull_eq h.1.c, K_isFull_eq, Option.bind_some, bI_ite, bindE]
  refine Sim.ite (fun hp => ?_) (fun _ => Sim.f1 h)
  refine Sim.ite (fun hq => ?_) (fun _ => Sim.f1 h)
  refine Sim.ite (fun hd => ?_) (fun _ => Sim.f1 h)
  refine Sim.ite (fun hr => ?_) (fun _ => Sim.f1 h)
  obtain ⟨c, hc, rfl⟩ := h.1.c.in2 hp
  obtain ⟨t, ht, rfl⟩ := h.1.c.in0 hq
  have n5 := h.1.c.n5
  have b5 := h.1.c.b5
  have e5 := h.1.c.e5
  have b0 := h.1.c.b0
  have b2 := h.1.c.b2
  have t8 : t < 8 := by omega
  have k5 : c < 5 := by omega
  have z0 : M 3 0 t 0 = N 41 0 0 (20 + 4 * t) := (h.1.t t ht).1 0 (by decide)
  rw [ixx_nI t8 (by decide), z0]
  simp only [K_ofTown_0 t8, W_coin_eq t8 k5, K_gives_eq t8 k5, Option.bind_some]
  refine Sim.ite (fun _ => Sim.f2 h) (fun hz => ?_)
  refine Sim.ite (fun _ => Sim.f4 h) (fun hf => ?_)
  obtain ⟨n, _, n2, rfl⟩ := in_lit (a := 0) (b := 9999) (by decide) hr (by decide)
  have hb : cn (N 41 0 0) 5 < 24 := (nI_ltI (b := 24) (by omega) (by decide)).mp (n5 ▸ (cnt_lt (b := 24) n5 b5 (by decide)).mpr hf)
  have hg := h.1.gives (B' := B + 1) (s := nI n) (by omega) ht hc (((h.1.t t ht).2.1.sub (by omega) (by omega) hz).mono (by omega))
  rw [← up_row, ← up_row] at hg
  generalize hMg : up (up M 3 0 t 0 (M 3 0 t 0 - nI n)) 6 0 c 0 (M 6 0 c 0 + nI n) = Mg at *
  generalize hNg : up (up N 41 0 0 (20 + 4 * t) (N 41 0 0 (20 + 4 * t) - nI n)) 41 0 0 (100 + 24 * c) (N 41 0 0 (100 + 24 * c) + nI n) = Ng at *
  have g5 : Ng 41 0 0 5 = N 41 0 0 5 := by rw [← hNg, up_ne (by omega), up_ne (by omega)]
  have g0 : Ng 41 0 0 0 = N 41 0 0 0 := by rw [← hNg, up_ne (by omega), up_ne (by omega)]
  have g2 : Ng 41 0 0 2 = N 41 0 0 2 := by rw [← hNg, up_ne (by omega), up_ne (by omega)]
  have c5 : cn (Ng 41 0 0) 5 = cn (N 41 0 0) 5 := cn_same g5
  rw [F_newBond_eq (hg.c.e5.trans hg.c.n5) (by omega), K_newBond_eq hg.c.n5 (by omega)]
  simp only [Option.bind_some]
  have m1 : up (up (up (bB Mg (cn (Ng 41 0 0) 5) 6 (nI c) (nI n)) 15 0 (cn (Ng 41 0 0) 5) 2 x3) 15 0 (cn (Ng 41 0 0) 5) 3 x4) 15 0 (cn (Ng 41 0 0) 5) 5 (nI t) 1 0 0 12 = nI (cn (Ng 41 0 0) 5) := by rw [up_ne (by omega), up_ne (by omega), up_ne (by omega), bB_o (by omega), hg.c.e5, hg.c.n5]
  rw [m1, nI_1]
  refine Sim.ret (h.world (by omega) ?_ (fun r w i k _ _ _ _ q => by rw [up_ne (by omega), up_ne (by omega), up_ne (by omega), up_ne (by omega), bB_o (by omega), ← hMg, up_ne (by omega), up_ne (by omega)]) (fun r k q => by rw [kB_o (by omega), ← hNg, up_ne (by omega), up_ne (by omega)]))
  refine hg.addBond (x1 := 6) (x2 := nI c) (x3 := x3) (x4 := x4) (x5 := nI n) (x6 := nI t) (x7 := -1) (x8 := -1) (by omega) (by omega) (fun r i k _ _ q => by rw [up_ne (by omega), up_ne (by omega), up_ne (by omega), up_ne (by omega), bB_o (by omega)]) ?_ up_eq (fun k q => kB_o (by omega)) (fun k hk => kB_i hk) kB_5 ⟨⟨6, by decide, rfl⟩, by decide⟩ ⟨c, by rw [cn_same g2]; exact hc, rfl⟩ (.inr (dOK_N hd)) (fun q => by rcases q with q | q <;> exact absurd q (by decide))
  refine k12 ?_ ?_ ?_ ?_ ?_ ?_ ?_ ?_ ?_ ?_ ?_ ?_ <;> simp [up, bB, vB]
