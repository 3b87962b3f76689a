/-! ===== what is due at a month's end ===== -/
theorem nI_nz {n : Nat} (h : n < 2 ^ 31) (z : ¬ n = 0) : ¬ nI n = (0 : Int32) := fun q => z ((nI_eq (b := 0) h (by decide)).mp q)
/-- within 0 and 99999 -/
def clp (x : Int32) : Int32 := if x < 0 then 0 else if x ≤ 99999 then x else 99999
theorem clp_is (x : Int32) : isN (clp x) 100000 := by
  unfold clp
  split
  · exact ⟨0, by decide, rfl⟩
  · split
    · rename_i h1 h2
      exact in_lit0 (b := 99999) (by decide) ⟨Int32.not_lt.mp h1, h2⟩
    · exact ⟨99999, by decide, rfl⟩
theorem clp_c (x : Int32) : (if (0 : Int32) < (if x < 99999 then x else 99999) then (if x < 99999 then x else 99999) else 0) = clp x := by
  unfold clp
  by_cases z0 : x < 0
  · have z1 : x < 99999 := Int32.lt_trans z0 (by decide)
    rw [if_pos z0, if_pos z1, if_neg (fun q => Int32.lt_irrefl (Int32.lt_trans z0 q))]
  · rw [if_neg z0]
    by_cases z1 : x < 99999
    · rw [if_pos z1, if_pos (Int32.le_of_lt z1)]
      by_cases z2 : 0 < x
      · rw [if_pos z2]
      · rw [if_neg z2]
        exact Int32.le_antisymm (Int32.not_lt.mp z0) (Int32.not_lt.mp z2)
    · rw [if_neg z1, if_pos (by decide)]
      by_cases z2 : x ≤ 99999
      · rw [if_pos z2]
        exact (Int32.le_antisymm z2 (Int32.not_lt.mp z1)).symm
      · rw [if_neg z2]
theorem pos_c (x : Int32) : (if (0 : Int32) < x then x else 0) = if x < 0 then 0 else x := by
  by_cases z0 : x < 0
  · rw [if_pos z0, if_neg (fun q => Int32.lt_irrefl (Int32.lt_trans z0 q))]
  · rw [if_neg z0]
    by_cases z2 : 0 < x
    · rw [if_pos z2]
    · rw [if_neg z2]
      exact Int32.le_antisymm (Int32.not_lt.mp z0) (Int32.not_lt.mp z2)
theorem due_ok {B w b : Nat} {M N : Mem} (h : RW B M w (N 41 0 0)) (h24 : b < 24) (c t y : Int32) : ∃ du M' N', du < 100000 ∧ mW_due w y (N 41 0 0 (1056 + 14 * b + 4)) M = some (nI du, M') ∧ mK_month_49 (nI b) c t (inF (N 41 0 0) 1 (N 41 0 0 6) (cn (N 41 0 0) 4)) y N = mK_month_108 (nI b) c t (nI du) N' ∧ sWV w M N M' N' := by
  have b4 := h.c.b4
  unfold mW_due mK_month_49 mK_month_49b
  simp only [h.c.e6, W_inForce_eq h, K_bond_4 h24, Option.bind_some, clp_c]
  have fin : ∀ (x : Int32) (N' : Mem), (if x < 0 then mK_month_108 (nI b) c t 0 N' else if x ≤ 99999 then mK_month_108 (nI b) c t x N' else mK_month_108 (nI b) c t 99999 N') = mK_month_108 (nI b) c t (clp x) N' := by
    intro x N'
    unfold clp
    split
    · rfl
    · split <;> rfl
  simp only [fin]
  by_cases z : inF (N 41 0 0) 1 (N 41 0 0 6) (cn (N 41 0 0) 4) < 0
  · rw [if_pos z, if_pos z]
    obtain ⟨du, hd, ed⟩ := clp_is (y * N 41 0 0 (1056 + 14 * b + 4))
    rw [ed]
    exact ⟨du, M, N, hd, rfl, rfl, sWV.rf⟩
  · rw [if_neg z, if_neg z]
    rcases inF_spec (N 41 0 0) 1 (N 41 0 0 6) (cn (N 41 0 0) 4) with q | ⟨s, hs, q⟩
    · rw [q] at z
      exact absurd (by decide) z
    rw [q, ixx_nI (by omega) (by decide)]
    obtain ⟨v, M', N', a1, a2, a3⟩ := h.works hs y (N 41 0 0 (1056 + 14 * b + 4)) 0
    rw [a1, a2]
    simp only [Option.bind_some]
    obtain ⟨du, hd, ed⟩ := clp_is v
    rw [ed]
    exact ⟨du, M', N', hd, rfl, rfl, a3⟩
theorem oN_9 {N : Mem} {b : Nat} {x : Int32} : oN N b x 41 0 0 (1056 + 14 * b + 9) = if N 41 0 0 (1056 + 14 * b + 8) - x = 0 then -1 else N 41 0 0 (1056 + 14 * b + 9) := by
  unfold oN
  split
  · rw [up_eq]
  · rw [up_ne (by omega)]
theorem RW.paid {B w b c t : Nat} {M N M' N' : Mem} {owed since left tc cc : Int32} (h : RW B M w (N 41 0 0)) (hb : b < cn (N 41 0 0) 5) (hc : c < cn (N 41 0 0) 2) (ht : t < cn (N 41 0 0) 0) (pm8 : M' 15 w b 8 = owed) (pm9 : M' 15 w b 9 = since) (pm10 : M' 15 w b 10 = left) (pmt : M' 3 w t 0 = tc) (pmc : M' 6 w c 0 = cc) (pmo : ∀ r w' i k, ¬ (w' = w ∧ ((r = 15 ∧ i = b ∧ (k = 8 ∨ k = 9 ∨ k = 10)) ∨ (r = 3 ∧ i = t ∧ k = 0) ∨ (r = 6 ∧ i = c ∧ k = 0))) → M' r w' i k = M r w' i k) (pn8 : N' 41 0 0 (1056 + 14 * b + 8) = owed) (pn9 : N' 41 0 0 (1056 + 14 * b + 9) = since) (pn10 : N' 41 0 0 (1056 + 14 * b + 10) = left) (pnt : N' 41 0 0 (20 + 4 * t) = tc) (pnc : N' 41 0 0 (100 + 24 * c) = cc) (pno : ∀ r w' i k, ¬ (r = 41 ∧ w' = 0 ∧ i = 0 ∧ (k = 1056 + 14 * b + 8 ∨ k = 1056 + 14 * b + 9 ∨ k = 1056 + 14 * b + 10 ∨ k = 20 + 4 * t ∨ k = 100 + 24 * c)) → N' r w' i k = N r w' i k) (ho : isN owed (100000 * (cn (N 41 0 0) 6 / 30) + 1)) (hs : (owed = 0 ∧ since = -1) ∨ (owed ≠ 0 ∧ isN since 3001)) (hl : isN left (10000 * B + 1)) (htc : isN tc (100000 + 10000 * B)) : RW B M' w (N' 41 0 0) := by
  have b0 := h.c.b0
  have b2 := h.c.b2
  have b5 := h.c.b5
  have r1 := h.bondF (k := 10) (v := left) (Nat.le_refl B) hb (.inl rfl) (fun _ => hl) (by omega)
  have r2 := r1.bondO (b := b) (v := owed) (u := since) (Nat.le_refl B) (by rw [cn_same (pk_un (by omega))]; exact hb) (by rw [cn_same (pk_un (by omega))]; exact ho) hs
  have r3 := r2.town (t := t) (k := 0) (v := tc) (Nat.le_refl B) (by rw [cn_same (pk_un (by omega)), cn_same (pk_un (by omega)), cn_same (pk_un (by omega))]; exact ht) (by decide) (fun _ => htc) (by omega)
  have r4 := r3.compCoin (c := c) (v := cc) (Nat.le_refl B) (by rw [cn_same (pk_un (by omega)), cn_same (pk_un (by omega)), cn_same (pk_un (by omega)), cn_same (pk_un (by omega))]; exact hc)
  have er : upd (upd (upd (upd (upd (N 41 0 0) (1056 + 14 * b + 10) left) (1056 + 14 * b + 8) owed) (1056 + 14 * b + 9) since) (20 + 4 * t + 0) tc) (100 + 24 * c) cc = N' 41 0 0 := by
    funext k
    by_cases k1 : k = 100 + 24 * c
    · rw [k1, pk_us, pnc]
    rw [pk_un k1]
    by_cases k2 : k = 20 + 4 * t
    · rw [k2, pnt]
      exact pk_us
    rw [pk_un (by omega)]
    by_cases k3 : k = 1056 + 14 * b + 9
    · rw [k3, pk_us, pn9]
    rw [pk_un k3]
    by_cases k4 : k = 1056 + 14 * b + 8
    · rw [k4, pk_us, pn8]
    rw [pk_un k4]
    by_cases k5 : k = 1056 + 14 * b + 10
    · rw [k5, pk_us, pn10]
    rw [pk_un k5]
    exact (pno 41 0 0 k (by omega)).symm
  rw [er] at r4
  refine r4.cong (Nat.le_refl B) (fun r i k _ _ => ?_)
  by_cases k1 : r = 6 ∧ i = c ∧ k = 0
  · obtain ⟨rfl, rfl, rfl⟩ := k1
    rw [up_eq, pmc]
  rw [up_ne (by omega)]
  by_cases k2 : r = 3 ∧ i = t ∧ k = 0
  · obtain ⟨rfl, rfl, rfl⟩ := k2
    rw [up_eq, pmt]
  rw [up_ne (by omega)]
  by_cases k3 : r = 15 ∧ i = b ∧ k = 9
  · obtain ⟨rfl, rfl, rfl⟩ := k3
    rw [up_eq, pm9]
  rw [up_ne (by omega)]
  by_cases k4 : r = 15 ∧ i = b ∧ k = 8
  · obtain ⟨rfl, rfl, rfl⟩ := k4
    rw [up_eq, pm8]
  rw [up_ne (by omega)]
  by_cases k5 : r = 15 ∧ i = b ∧ k = 10
  · obtain ⟨rfl, rfl, rfl⟩ := k5
    rw [up_eq, pm10]
  rw [up_ne (by omega)]
  exact pmo r w i k (by omega)
/-- counts and the other bonds stay -/
def KS (b : Nat) (N N' : Mem) : Prop := ∀ k, k < 9 ∨ (1056 ≤ k ∧ (k < 1056 + 14 * b ∨ 1056 + 14 * b + 14 ≤ k)) → N' 41 0 0 k = N 41 0 0 k
/-- the end of the reference's month -/
theorem K_month_185 {b c t a L o tc : Nat} {cc : Int32} {N : Mem} (h24 : b < 24) (c5 : c < 5) (t8 : t < 8) (e10 : N 41 0 0 (1056 + 14 * b + 10) = nI L) (e8 : N 41 0 0 (1056 + 14 * b + 8) = nI o) (et : N 41 0 0 (20 + 4 * t) = nI tc) (ec : N 41 0 0 (100 + 24 * c) = cc) (ha : a ≤ L) (hao : a ≤ o) (ho : o < 2 ^ 31) (htc : tc < 2 ^ 31) : ∃ N', mK_month_185 (nI b) (nI c) (nI t) (nI a) N = some N' ∧ N' 41 0 0 (1056 + 14 * b + 8) = nI (o - a - min tc (o - a)) ∧ (N' 41 0 0 (1056 + 14 * b + 9) = if o - a - min tc (o - a) = 0 then -1 else N 41 0 0 (1056 + 14 * b + 9)) ∧ N' 41 0 0 (1056 + 14 * b + 10) = nI (L - a) ∧ N' 41 0 0 (20 + 4 * t) = nI (tc - min tc (o - a)) ∧ N' 41 0 0 (100 + 24 * c) = cc + nI (min tc (o - a)) ∧ ∀ r w' i k, ¬ (r = 41 ∧ w' = 0 ∧ i = 0 ∧ (k = 1056 + 14 * b + 8 ∨ k = 1056 + 14 * b + 9 ∨ k = 1056 + 14 * b + 10 ∨ k = 20 + 4 * t ∨ k = 100 + 24 * c)) → N' r w' i k = N r w' i k := by
  unfold mK_month_185 mK_month_185b
  simp only [K_bond_10 h24, K_writes_10 h24, K_owes_eq h24, K_ofTown_0 t8, K_bond_8 h24, K_gives_eq t8 c5, Option.bind_some, e10, pk_sub ha]
  generalize hN3 : up N 41 0 0 (1056 + 14 * b + 10) (nI (L - a)) = N3
  have x8 : N3 41 0 0 (1056 + 14 * b + 8) = nI o := by rw [← hN3, up_ne (by omega)]; exact e8
  have x9 : N3 41 0 0 (1056 + 14 * b + 9) = N 41 0 0 (1056 + 14 * b + 9) := by rw [← hN3, up_ne (by omega)]
  have x10 : N3 41 0 0 (1056 + 14 * b + 10) = nI (L - a) := by rw [← hN3, up_eq]
  have y8 : oN N3 b (nI a) 41 0 0 (1056 + 14 * b + 8) = nI (o - a) := by rw [oN_8, x8, pk_sub hao]
  have y9 : oN N3 b (nI a) 41 0 0 (1056 + 14 * b + 9) = if o - a = 0 then -1 else N 41 0 0 (1056 + 14 * b + 9) := by
    rw [oN_9, x8, pk_sub hao, x9]
    by_cases z : o - a = 0
    · rw [if_pos z, if_pos (by rw [z]; rfl)]
    · rw [if_neg z, if_neg (nI_nz (by omega) z)]
  have yo : ∀ r w' i k, ¬ (r = 41 ∧ w' = 0 ∧ i = 0 ∧ (k = 1056 + 14 * b + 8 ∨ k = 1056 + 14 * b + 9 ∨ k = 1056 + 14 * b + 10)) → oN N3 b (nI a) r w' i k = N r w' i k := fun r w' i k q => by rw [oN_o (by omega), ← hN3, up_ne (by omega)]
  have y10 : oN N3 b (nI a) 41 0 0 (1056 + 14 * b + 10) = nI (L - a) := by rw [oN_o (by omega), x10]
  generalize oN N3 b (nI a) = N4 at *
  have yt : N4 41 0 0 (20 + 4 * t) = nI tc := by rw [yo _ _ _ _ (by omega)]; exact et
  have yc : N4 41 0 0 (100 + 24 * c) = cc := by rw [yo _ _ _ _ (by omega)]; exact ec
  rw [yt, y8, yc]
  have fin : ∀ s, s = min tc (o - a) → ∃ N', some (oN (up (up N4 41 0 0 (20 + 4 * t) (nI tc - nI s)) 41 0 0 (100 + 24 * c) (cc + nI s)) b (nI s)) = some N' ∧ N' 41 0 0 (1056 + 14 * b + 8) = nI (o - a - min tc (o - a)) ∧ (N' 41 0 0 (1056 + 14 * b + 9) = if o - a - min tc (o - a) = 0 then -1 else N 41 0 0 (1056 + 14 * b + 9)) ∧ N' 41 0 0 (1056 + 14 * b + 10) = nI (L - a) ∧ N' 41 0 0 (20 + 4 * t) = nI (tc - min tc (o - a)) ∧ N' 41 0 0 (100 + 24 * c) = cc + nI (min tc (o - a)) ∧ ∀ r w' i k, ¬ (r = 41 ∧ w' = 0 ∧ i = 0 ∧ (k = 1056 + 14 * b + 8 ∨ k = 1056 + 14 * b + 9 ∨ k = 1056 + 14 * b + 10 ∨ k = 20 + 4 * t ∨ k = 100 + 24 * c)) → N' r w' i k = N r w' i k := by
    intro s es
    rw [← es]
    have s1 : s ≤ tc := by omega
    have s2 : s ≤ o - a := by omega
    refine ⟨_, rfl, ?_, ?_, ?_, ?_, ?_, fun r w' i k q => ?_⟩
    · rw [oN_8, up_ne (by omega), up_ne (by omega), y8, pk_sub s2]
    · rw [oN_9, up_ne (by omega), up_ne (by omega), y8, pk_sub s2, up_ne (by omega), up_ne (by omega), y9]
      by_cases z : o - a - s = 0
      · rw [if_pos z, if_pos (by rw [z]; rfl)]
      · rw [if_neg z, if_neg (nI_nz (by omega) z), if_neg (by omega)]
    · rw [oN_o (by omega), up_ne (by omega), up_ne (by omega), y10]
    · rw [oN_o (by omega), up_ne (by omega), up_eq, pk_sub s1]
    · rw [oN_o (by omega), up_eq]
    · rw [oN_o (by omega), up_ne (by omega), up_ne (by omega)]
      exact yo r w' i k (by omega)
  by_cases z : tc < o - a
  · rw [if_pos (nI_lt z (by omega))]
    exact fin tc (by omega)
  · rw [if_neg (nI_nlt (by omega) (by omega))]
    exact fin (o - a) (by omega)
