/-! ===== one field changed ===== -/
theorem RW.town {B B' : Nat} {M : Mem} {w : Nat} {f : Row} {t k : Nat} {v : Int32} (h : RW B M w f) (hB : B ≤ B') (ht : t < cn f 0) (hk : k < 4) (h0 : k = 0 → isN v (100000 + 10000 * B')) (h1 : k = 1 → isN v 1000000) : RW B' (up M 3 w t k v) w (upd f (20 + 4 * t + k) v) := by
  have b0 := h.c.b0
  refine h.townAt (t := t) hB (fun r i j _ _ q => up_ne (by omega)) (fun j hj => pk_un (by omega)) (by omega) ?_
  obtain ⟨q1, q2, q3⟩ := h.t t ht
  refine ⟨fun j hj => ?_, ?_, ?_⟩
  · by_cases e : j = k
    · subst e
      rw [up_eq, pk_us]
    · rw [up_ne (by omega), pk_un (by omega)]
      exact q1 j hj
  · by_cases e : k = 0
    · subst e
      rw [show upd f (20 + 4 * t + 0) v (20 + 4 * t) = v from if_pos rfl]
      exact h0 rfl
    · rw [pk_un (by omega)]
      exact q2.mono (by omega)
  · by_cases e : k = 1
    · subst e
      rw [pk_us]
      exact h1 rfl
    · rw [pk_un (by omega)]
      exact q3
theorem RW.compCoin {B B' : Nat} {M : Mem} {w : Nat} {f : Row} {c : Nat} {v : Int32} (h : RW B M w f) (hB : B ≤ B') (hc : c < cn f 2)  : RW B' (up M 6 w c 0 v) w (upd f (100 + 24 * c) v) := by
  have b2 := h.c.b2
  have e0 : cn (upd f (100 + 24 * c) v) 0 = cn f 0 := cn_same (pk_un (by omega))
  refine h.compAt (c := c) hB (fun r i j _ _ q => up_ne (by omega)) (fun j hj => pk_un (by omega)) (by omega) ?_
  obtain ⟨⟨a0, a1, a2, a3, a8, a9, a11⟩, h2, h3, h4, h5, h6, h7, h8⟩ := h.p c hc
  unfold XP1
  rw [e0, pk_un (f := f) (k := 100 + 24 * c) (x := v) (j := 100 + 24 * c + 1) (by omega), pk_un (f := f) (k := 100 + 24 * c) (x := v) (j := 100 + 24 * c + 2) (by omega), pk_un (f := f) (k := 100 + 24 * c) (x := v) (j := 100 + 24 * c + 3) (by omega), pk_un (f := f) (k := 100 + 24 * c) (x := v) (j := 100 + 24 * c + 4) (by omega), pk_un (f := f) (k := 100 + 24 * c) (x := v) (j := 100 + 24 * c + 5) (by omega), pk_un (f := f) (k := 100 + 24 * c) (x := v) (j := 100 + 24 * c + 6) (by omega), pk_un (f := f) (k := 100 + 24 * c) (x := v) (j := 100 + 24 * c + 7) (by omega), pk_un (f := f) (k := 100 + 24 * c) (x := v) (j := 100 + 24 * c + 8) (by omega), pk_un (f := f) (k := 100 + 24 * c) (x := v) (j := 100 + 24 * c + 9) (by omega), cn_same (pk_un (f := f) (k := 100 + 24 * c) (x := v) (j := 100 + 24 * c + 9) (by omega))]
  rw [pk_us]
  refine ⟨⟨?_, ?_, ?_, ?_, ?_, ?_, ?_⟩, ?_, ?_, ?_, ?_, ?_, ?_, ?_⟩
  · exact up_eq
  · rw [up_ne (by omega)]; exact a1
  · rw [up_ne (by omega)]; exact a2
  · rw [up_ne (by omega)]; exact a3
  · rw [up_ne (by omega)]; exact a8
  · rw [up_ne (by omega)]; exact a9
  · rw [up_ne (by omega)]; exact a11
  · rw [up_ne (by omega), up_ne (by omega)]; exact h2
  · rw [up_ne (by omega)]; exact h3
  · intro j hj
    rw [up_ne (by omega), pk_un (by omega)]
    exact h4 j hj
  · exact h5.mono (by omega)
  · exact h6
  · exact h7
  · exact h8
theorem RW.compBread {B B' : Nat} {M : Mem} {w : Nat} {f : Row} {c : Nat} {v : Int32} (h : RW B M w f) (hB : B ≤ B') (hc : c < cn f 2) (hv : isN v (10000 * (B' + 1))) : RW B' (up M 6 w c 1 v) w (upd f (100 + 24 * c + 1) v) := by
  have b2 := h.c.b2
  have e0 : cn (upd f (100 + 24 * c + 1) v) 0 = cn f 0 := cn_same (pk_un (by omega))
  refine h.compAt (c := c) hB (fun r i j _ _ q => up_ne (by omega)) (fun j hj => pk_un (by omega)) (by omega) ?_
  obtain ⟨⟨a0, a1, a2, a3, a8, a9, a11⟩, h2, h3, h4, h5, h6, h7, h8⟩ := h.p c hc
  unfold XP1
  rw [e0, pk_un (f := f) (k := 100 + 24 * c + 1) (x := v) (j := 100 + 24 * c) (by omega), pk_un (f := f) (k := 100 + 24 * c + 1) (x := v) (j := 100 + 24 * c + 2) (by omega), pk_un (f := f) (k := 100 + 24 * c + 1) (x := v) (j := 100 + 24 * c + 3) (by omega), pk_un (f := f) (k := 100 + 24 * c + 1) (x := v) (j := 100 + 24 * c + 4) (by omega), pk_un (f := f) (k := 100 + 24 * c + 1) (x := v) (j := 100 + 24 * c + 5) (by omega), pk_un (f := f) (k := 100 + 24 * c + 1) (x := v) (j := 100 + 24 * c + 6) (by omega), pk_un (f := f) (k := 100 + 24 * c + 1) (x := v) (j := 100 + 24 * c + 7) (by omega), pk_un (f := f) (k := 100 + 24 * c + 1) (x := v) (j := 100 + 24 * c + 8) (by omega), pk_un (f := f) (k := 100 + 24 * c + 1) (x := v) (j := 100 + 24 * c + 9) (by omega), cn_same (pk_un (f := f) (k := 100 + 24 * c + 1) (x := v) (j := 100 + 24 * c + 9) (by omega))]
  rw [pk_us]
  refine ⟨⟨?_, ?_, ?_, ?_, ?_, ?_, ?_⟩, ?_, ?_, ?_, ?_, ?_, ?_, ?_⟩
  · rw [up_ne (by omega)]; exact a0
  · exact up_eq
  · rw [up_ne (by omega)]; exact a2
  · rw [up_ne (by omega)]; exact a3
  · rw [up_ne (by omega)]; exact a8
  · rw [up_ne (by omega)]; exact a9
  · rw [up_ne (by omega)]; exact a11
  · rw [up_ne (by omega), up_ne (by omega)]; exact h2
  · rw [up_ne (by omega)]; exact h3
  · intro j hj
    rw [up_ne (by omega), pk_un (by omega)]
    exact h4 j hj
  · exact hv
  · exact h6
  · exact h7
  · exact h8
theorem RW.compHunger {B B' : Nat} {M : Mem} {w : Nat} {f : Row} {c : Nat} {v : Int32} (h : RW B M w f) (hB : B ≤ B') (hc : c < cn f 2)  : RW B' (up M 6 w c 2 v) w (upd f (100 + 24 * c + 5) v) := by
  have b2 := h.c.b2
  have e0 : cn (upd f (100 + 24 * c + 5) v) 0 = cn f 0 := cn_same (pk_un (by omega))
  refine h.compAt (c := c) hB (fun r i j _ _ q => up_ne (by omega)) (fun j hj => pk_un (by omega)) (by omega) ?_
  obtain ⟨⟨a0, a1, a2, a3, a8, a9, a11⟩, h2, h3, h4, h5, h6, h7, h8⟩ := h.p c hc
  unfold XP1
  rw [e0, pk_un (f := f) (k := 100 + 24 * c + 5) (x := v) (j := 100 + 24 * c) (by omega), pk_un (f := f) (k := 100 + 24 * c + 5) (x := v) (j := 100 + 24 * c + 1) (by omega), pk_un (f := f) (k := 100 + 24 * c + 5) (x := v) (j := 100 + 24 * c + 2) (by omega), pk_un (f := f) (k := 100 + 24 * c + 5) (x := v) (j := 100 + 24 * c + 3) (by omega), pk_un (f := f) (k := 100 + 24 * c + 5) (x := v) (j := 100 + 24 * c + 4) (by omega), pk_un (f := f) (k := 100 + 24 * c + 5) (x := v) (j := 100 + 24 * c + 6) (by omega), pk_un (f := f) (k := 100 + 24 * c + 5) (x := v) (j := 100 + 24 * c + 7) (by omega), pk_un (f := f) (k := 100 + 24 * c + 5) (x := v) (j := 100 + 24 * c + 8) (by omega), pk_un (f := f) (k := 100 + 24 * c + 5) (x := v) (j := 100 + 24 * c + 9) (by omega), cn_same (pk_un (f := f) (k := 100 + 24 * c + 5) (x := v) (j := 100 + 24 * c + 9) (by omega))]
  rw [pk_us]
  refine ⟨⟨?_, ?_, ?_, ?_, ?_, ?_, ?_⟩, ?_, ?_, ?_, ?_, ?_, ?_, ?_⟩
  · rw [up_ne (by omega)]; exact a0
  · rw [up_ne (by omega)]; exact a1
  · exact up_eq
  · rw [up_ne (by omega)]; exact a3
  · rw [up_ne (by omega)]; exact a8
  · rw [up_ne (by omega)]; exact a9
  · rw [up_ne (by omega)]; exact a11
  · rw [up_ne (by omega), up_ne (by omega)]; exact h2
  · rw [up_ne (by omega)]; exact h3
  · intro j hj
    rw [up_ne (by omega), pk_un (by omega)]
    exact h4 j hj
  · exact h5.mono (by omega)
  · exact h6
  · exact h7
  · exact h8
theorem RW.compTown {B B' : Nat} {M : Mem} {w : Nat} {f : Row} {c : Nat} {v : Int32} (h : RW B M w f) (hB : B ≤ B') (hc : c < cn f 2) (hv : isN v (cn f 0)) : RW B' (up M 6 w c 3 v) w (upd f (100 + 24 * c + 2) v) := by
  have b2 := h.c.b2
  have e0 : cn (upd f (100 + 24 * c + 2) v) 0 = cn f 0 := cn_same (pk_un (by omega))
  refine h.compAt (c := c) hB (fun r i j _ _ q => up_ne (by omega)) (fun j hj => pk_un (by omega)) (by omega) ?_
  obtain ⟨⟨a0, a1, a2, a3, a8, a9, a11⟩, h2, h3, h4, h5, h6, h7, h8⟩ := h.p c hc
  unfold XP1
  rw [e0, pk_un (f := f) (k := 100 + 24 * c + 2) (x := v) (j := 100 + 24 * c) (by omega), pk_un (f := f) (k := 100 + 24 * c + 2) (x := v) (j := 100 + 24 * c + 1) (by omega), pk_un (f := f) (k := 100 + 24 * c + 2) (x := v) (j := 100 + 24 * c + 3) (by omega), pk_un (f := f) (k := 100 + 24 * c + 2) (x := v) (j := 100 + 24 * c + 4) (by omega), pk_un (f := f) (k := 100 + 24 * c + 2) (x := v) (j := 100 + 24 * c + 5) (by omega), pk_un (f := f) (k := 100 + 24 * c + 2) (x := v) (j := 100 + 24 * c + 6) (by omega), pk_un (f := f) (k := 100 + 24 * c + 2) (x := v) (j := 100 + 24 * c + 7) (by omega), pk_un (f := f) (k := 100 + 24 * c + 2) (x := v) (j := 100 + 24 * c + 8) (by omega), pk_un (f := f) (k := 100 + 24 * c + 2) (x := v) (j := 100 + 24 * c + 9) (by omega), cn_same (pk_un (f := f) (k := 100 + 24 * c + 2) (x := v) (j := 100 + 24 * c + 9) (by omega))]
  rw [pk_us]
  refine ⟨⟨?_, ?_, ?_, ?_, ?_, ?_, ?_⟩, ?_, ?_, ?_, ?_, ?_, ?_, ?_⟩
  · rw [up_ne (by omega)]; exact a0
  · rw [up_ne (by omega)]; exact a1
  · rw [up_ne (by omega)]; exact a2
  · exact up_eq
  · rw [up_ne (by omega)]; exact a8
  · rw [up_ne (by omega)]; exact a9
  · rw [up_ne (by omega)]; exact a11
  · intro q
    exact absurd q (hv.ge (by have := h.c.b0; omega))
  · rw [up_ne (by omega)]; exact h3
  · intro j hj
    rw [up_ne (by omega), pk_un (by omega)]
    exact h4 j hj
  · exact h5.mono (by omega)
  · exact .inl hv
  · exact h7
  · exact h8
/-- a field of a bond that the invariant leaves free, or that stays within it -/
theorem RW.bondF {B B' : Nat} {M : Mem} {w : Nat} {f : Row} {b k : Nat} {v : Int32} (h : RW B M w f) (hB : B ≤ B') (hb : b < cn f 5) (hk : k = 10 ∨ k = 11) (h10 : k = 10 → isN v (10000 * B' + 1)) (h11 : k = 11 → v = 0 ∨ v = 1) : RW B' (up M 15 w b k v) w (upd f (1056 + 14 * b + k) v) := by
  have b5 := h.c.b5
  have n : ∀ j, j ≠ 1056 + 14 * b + k → upd f (1056 + 14 * b + k) v j = f j := fun j hj => pk_un hj
  refine h.bondAt (b := b) hB (fun r i j _ _ q => up_ne (by omega)) (fun j hj => pk_un (by omega)) (by omega) ?_
  obtain ⟨q1, q2, q3, q4, q5, q6, q7, q8, q9⟩ := h.b b hb
  unfold XB1
  rw [cn_same (f := f) (k := 0) (n 0 (by omega)), cn_same (f := f) (k := 2) (n 2 (by omega)), cn_same (f := f) (k := 6) (n 6 (by omega)), n (1056 + 14 * b) (by omega), n (1056 + 14 * b + 1) (by omega), n (1056 + 14 * b + 2) (by omega), n (1056 + 14 * b + 3) (by omega), n (1056 + 14 * b + 5) (by omega), n (1056 + 14 * b + 8) (by omega), n (1056 + 14 * b + 9) (by omega)]
  refine ⟨fun j hj => ?_, q2, q3, q4, q5, q6, q7, ?_, ?_⟩
  · by_cases e : j = k
    · subst e
      rw [up_eq, pk_us]
    · rw [up_ne (by omega), n _ (by omega)]
      exact q1 j hj
  · by_cases e : k = 10
    · subst e
      rw [pk_us]
      exact h10 rfl
    · rw [n _ (by omega)]
      exact q8.mono (by omega)
  · by_cases e : k = 11
    · subst e
      rw [pk_us]
      exact h11 rfl
    · rw [n _ (by omega)]
      exact q9
/-- what is owed of a bond, and since when -/
theorem RW.bondO {B B' : Nat} {M : Mem} {w : Nat} {f : Row} {b : Nat} {v u : Int32} (h : RW B M w f) (hB : B ≤ B') (hb : b < cn f 5) (hv : isN v (100000 * (cn f 6 / 30) + 1)) (hu : (v = 0 ∧ u = -1) ∨ (v ≠ 0 ∧ isN u 3001)) : RW B' (up (up M 15 w b 8 v) 15 w b 9 u) w (upd (upd f (1056 + 14 * b + 8) v) (1056 + 14 * b + 9) u) := by
  have b5 := h.c.b5
  have n : ∀ j, j ≠ 1056 + 14 * b + 8 → j ≠ 1056 + 14 * b + 9 → upd (upd f (1056 + 14 * b + 8) v) (1056 + 14 * b + 9) u j = f j := fun j h1 h2 => by rw [pk_un h2, pk_un h1]
  refine h.bondAt (b := b) hB (fun r i j _ _ q => by rw [up_ne (by omega), up_ne (by omega)]) (fun j hj => n j (by omega) (by omega)) (by omega) ?_
  obtain ⟨q1, q2, q3, q4, q5, q6, q7, q8, q9⟩ := h.b b hb
  unfold XB1
  rw [cn_same (f := f) (k := 0) (n 0 (by omega) (by omega)), cn_same (f := f) (k := 2) (n 2 (by omega) (by omega)), cn_same (f := f) (k := 6) (n 6 (by omega) (by omega)), n (1056 + 14 * b) (by omega) (by omega), n (1056 + 14 * b + 1) (by omega) (by omega), n (1056 + 14 * b + 2) (by omega) (by omega), n (1056 + 14 * b + 3) (by omega) (by omega), n (1056 + 14 * b + 5) (by omega) (by omega), n (1056 + 14 * b + 10) (by omega) (by omega), n (1056 + 14 * b + 11) (by omega) (by omega)]
  have e8 : upd (upd f (1056 + 14 * b + 8) v) (1056 + 14 * b + 9) u (1056 + 14 * b + 8) = v := by rw [pk_un (by omega), pk_us]
  have e9 : upd (upd f (1056 + 14 * b + 8) v) (1056 + 14 * b + 9) u (1056 + 14 * b + 9) = u := pk_us
  rw [e8, e9]
  refine ⟨fun j hj => ?_, q2, q3, q4, q5, hv, hu, q8.mono (by omega), q9⟩
  by_cases e : j = 9
  · subst e
    rw [up_eq, e9]
  · by_cases e' : j = 8
    · subst e'
      rw [up_ne (by omega), up_eq, e8]
    · rw [up_ne (by omega), up_ne (by omega), n _ (by omega) (by omega)]
      exact q1 j hj
theorem isN.add {x y : Int32} {n m : Nat} (hx : isN x n) (hy : isN y (m + 1)) : isN (x + y) (n + m) := by
  obtain ⟨a, ha, rfl⟩ := hx
  obtain ⟨b, hb, rfl⟩ := hy
  exact ⟨a + b, by omega, nI_add a b⟩
theorem isN.sub {x : Int32} {n b : Nat} (hx : isN x n) (hn : n ≤ 2 ^ 31) (hb : b < 2 ^ 31) (h : ¬ x < nI b) : isN (x - nI b) n := by
  obtain ⟨a, ha, rfl⟩ := hx
  rw [nI_ltI (by omega) hb] at h
  exact ⟨a - b, by omega, pk_sub (by omega)⟩
