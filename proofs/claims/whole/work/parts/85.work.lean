/-! ===== a statute worked out on both sides ===== -/
theorem K_done_eq (x0 x1 x2 : Int32) (N : Mem) : mK_done x0 x1 x2 N = some (dn x0 x1 x2, N) := by
  unfold mK_done dn
  split
  · split
    · rfl
    · split <;> rfl
  · split
    · rfl
    · split
      · rfl
      · split
        · rfl
        · split
          · split <;> rfl
          · split
            · split <;> rfl
            · split
              · split <;> rfl
              · split
                · split
                  · split <;> rfl
                  · rfl
                · by_cases z : x2 = 0
                  · rw [if_pos z, if_pos z]
                  · rw [if_neg z, if_neg z, if_neg z]
/-- a row that holds a list, the uppermost at the end -/
def SM (R : Row) : List Int32 → Prop
  | [] => True
  | a :: r => R r.length = a ∧ SM R r
theorem SM.upd {R : Row} {k : Nat} {v : Int32} : ∀ {st : List Int32}, st.length ≤ k → SM R st → SM (upd R k v) st
  | [], _, _ => trivial
  | a :: r, h, q => by
    have h : r.length + 1 ≤ k := h
    refine ⟨?_, SM.upd (by omega) q.2⟩
    rw [pk_un (by omega)]
    exact q.1
theorem ixx_some {α : Type} {y : Int32} {n : Nat} {F : Nat → Option α} {r : α} (hn : n < 2 ^ 31) (h : ixx y n F = some r) : ∃ k, k < n ∧ y = nI k ∧ F k = some r := by
  unfold ixx at h
  split at h
  · cases h
  · rename_i z
    have h0 : ¬ y < 0 := fun q => z (.inl q)
    obtain ⟨j, hj, rfl⟩ := nI_of h0
    rw [nI_clamp hj] at z h
    exact ⟨j, by omega, rfl, h⟩
theorem comes_loop {nm : Nat → Int32} {at0 len : Nat} (hat : at0 + 50 ≤ 1502) (h1 : 1 ≤ at0) (hlen : len ≤ 50) : ∀ (c : List Int32) (i n : Nat) (N : Mem) (st r : List Int32), i + c.length = len → c.length < n → N 41 0 0 (at0 - 1) = nI len → (∀ k, k < c.length → N 41 0 0 (at0 + i + k) = c.getD k 0) → (∀ k, k < 3 → N 50 0 0 k = nm k) → SM (N 49 0 0) st → st.length ≤ i → evO nm c st = some r → ∃ N', mK_comesTo_41 n (nI st.length) (nI at0) (nI (at0 + i)) N = some (N' 49 0 0 0, N') ∧ SM (N' 49 0 0) r ∧ ∀ q w' i' k, q ≠ 49 → N' q w' i' k = N q w' i' k
  | [], i, n, N, st, r, hi, hn, hl, hc, hnm, hst, hsi, he => by
    obtain ⟨m, rfl⟩ : ∃ m, n = m + 1 := ⟨n - 1, by omega⟩
    have hi : i + 0 = len := hi
    obtain rfl : st = r := Option.some.inj he
    refine ⟨N, ?_, hst, fun _ _ _ _ _ => rfl⟩
    show mK_comesTo_41b (mK_comesTo_41 m) (nI st.length) (nI at0) (nI (at0 + i)) N = _
    unfold mK_comesTo_41b
    have e1 : nI at0 - 1 = nI (at0 - 1) := pk_sub (b := 1) h1
    rw [e1, ixx_nI (by omega) (by decide), hl, nI_add, if_neg (nI_nlt (by omega) (by omega))]
  | v :: c, i, n, N, st, r, hi, hn, hl, hc, hnm, hst, hsi, he => by
    obtain ⟨m, rfl⟩ : ∃ m, n = m + 1 := ⟨n - 1, by omega⟩
    have hi : i + (c.length + 1) = len := hi
    have hn : c.length + 1 < m + 1 := hn
    have hv : N 41 0 0 (at0 + i) = v := hc 0 (Nat.succ_pos _)
    have hc' : ∀ k, k < c.length → N 41 0 0 (at0 + (i + 1) + k) = c.getD k 0 := fun k hk => by
      have := hc (k + 1) (Nat.succ_lt_succ hk)
      rw [show at0 + i + (k + 1) = at0 + (i + 1) + k by omega] at this
      exact this
    rw [evO_c] at he
    show ∃ N', mK_comesTo_41b (mK_comesTo_41 m) (nI st.length) (nI at0) (nI (at0 + i)) N = _ ∧ _
    unfold mK_comesTo_41b
    have e1 : nI at0 - 1 = nI (at0 - 1) := pk_sub (b := 1) h1
    rw [e1, ixx_nI (by omega) (by decide), hl, nI_add, if_pos (nI_lt (by omega) (by omega)), ixx_nI (by omega) (by decide), hv, nI_1 (at0 + i)]
    -- one number more, or one changed
    have step : ∀ (st' : List Int32) (k : Nat) (x : Int32), st'.length ≤ i + 1 → SM (upd (N 49 0 0) k x) st' → evO nm c st' = some r → ∃ N', mK_comesTo_41 m (nI st'.length) (nI at0) (nI (at0 + i + 1)) (up N 49 0 0 k x) = some (N' 49 0 0 0, N') ∧ SM (N' 49 0 0) r ∧ ∀ q w' i' k, q ≠ 49 → N' q w' i' k = N q w' i' k := by
      intro st' k x q1 q2 q3
      obtain ⟨N', a1, a2, a3⟩ := comes_loop hat h1 hlen c (i + 1) m (up N 49 0 0 k x) st' r (by omega) (by omega) (by rw [upR (by decide)]; exact hl) (fun j hj => by rw [upR (by decide)]; exact hc' j hj) (fun j hj => by rw [upR (by decide)]; exact hnm j hj) (by rw [up_row]; exact q2) q1 q3
      refine ⟨N', a1, a2, fun q w' i' k' hq => ?_⟩
      rw [a3 q w' i' k' hq, upR hq]
    unfold evS at he
    by_cases z1 : v ≤ -100
    · rw [if_pos z1]
      rw [if_pos z1] at he
      by_cases z2 : v = -133
      · rw [if_pos z2]
        rw [if_pos z2] at he
        match st, hst, hsi, he with
        | [], _, _, he => cases he
        | a :: s, hst, hsi, he =>
          have hsi : s.length + 1 ≤ i := hsi
          have el : nI (a :: s).length - 1 = nI s.length := nI_pred s.length
          have ha : N 49 0 0 s.length = a := hst.1
          rw [el, ixx_nI (by omega) (by decide), ha]
          have he : evO nm c ((if a = 0 then 1 else 0) :: s) = some r := he
          by_cases z3 : a = 0
          · rw [if_pos z3] at he
            rw [if_pos z3, ixx_nI (by omega) (by decide)]
            exact step (1 :: s) s.length 1 (by show s.length + 1 ≤ i + 1; omega) ⟨pk_us, hst.2.upd (Nat.le_refl _)⟩ he
          · rw [if_neg z3] at he
            rw [if_neg z3, ixx_nI (by omega) (by decide)]
            exact step (0 :: s) s.length 0 (by show s.length + 1 ≤ i + 1; omega) ⟨pk_us, hst.2.upd (Nat.le_refl _)⟩ he
      · rw [if_neg z2]
        rw [if_neg z2] at he
        match st, hst, hsi, he with
        | [], _, _, he => cases he
        | [_], _, _, he => cases he
        | b :: a :: s, hst, hsi, he =>
          have hsi : s.length + 1 + 1 ≤ i := hsi
          have el : nI (b :: a :: s).length + -1 = nI (s.length + 1) := by
            rw [← Int32.sub_eq_add_neg]
            exact nI_pred (s.length + 1)
          have el2 : nI (s.length + 1) - 1 = nI s.length := nI_pred s.length
          have hb : N 49 0 0 (s.length + 1) = b := hst.1
          have ha : N 49 0 0 s.length = a := hst.2.1
          rw [el, el2, ixx_nI (by omega) (by decide), ixx_nI (by omega) (by decide), ha, hb, K_done_eq]
          rw [pop2_c] at he
          generalize dn (-100 - v) a b = y at *
          simp only [Option.bind_some] at he ⊢
          rw [ixx_nI (by omega) (by decide)]
          exact step (y :: s) s.length y (by show s.length + 1 ≤ i + 1; omega) ⟨pk_us, hst.2.2.upd (Nat.le_refl _)⟩ he
    · rw [if_neg z1]
      rw [if_neg z1] at he
      by_cases z2 : v < 0
      · rw [if_pos z2]
        rw [if_pos z2] at he
        generalize -1 - v = y at *
        obtain ⟨s1, hs1, hs2⟩ := Option.bind_eq_some_iff.mp he
        obtain ⟨k, hk, rfl, hk2⟩ := ixx_some (by decide) hs1
        obtain rfl : nm k :: st = s1 := Option.some.inj hk2
        rw [ixx_nI hk (by decide), ixx_nI (by omega) (by decide), hnm k hk, nI_1]
        exact step (nm k :: st) st.length (nm k) (by show st.length + 1 ≤ i + 1; omega) ⟨pk_us, hst.upd (Nat.le_refl _)⟩ hs2
      · rw [if_neg z2]
        rw [if_neg z2] at he
        have he : evO nm c (v :: st) = some r := he
        rw [ixx_nI (by omega) (by decide), nI_1]
        exact step (v :: st) st.length v (by show st.length + 1 ≤ i + 1; omega) ⟨pk_us, hst.upd (Nat.le_refl _)⟩ he
/-- a statute comes to the same on both sides -/
theorem work1 {M N : Mem} {w s : Nat} (b4 : s < 12) (hx : XS1 M w (N 41 0 0) s) (a b c : Int32) : ∃ v M' N', mR_workOut w w s a b c M = some (v, M') ∧ mK_comesTo (nI s) a b c N = some (v, N') ∧ (∀ r w' i k, ¬ (r = 17 ∧ w' = w) → M' r w' i k = M r w' i k) ∧ ∀ r w' i' k, r ≠ 49 → r ≠ 50 → N' r w' i' k = N r w' i' k := by
  obtain ⟨q1, q2, ⟨u, hu, eu⟩, n, p, code, r1, r2, r3, r4, r5, r6⟩ := hx
  have ecn : cn (N 41 0 0) (420 + 53 * s) = u := cn_nI eu (by omega)
  rw [ecn] at r3
  -- the class
  have hbeg : ∃ M0, RC M0 w s n u ∧ RS M0 w M0 0 (-1) ∧ (∀ r w' i k, ¬ (r = 17 ∧ w' = w) → M0 r w' i k = M r w' i k) ∧ (M0 17 w 0 3 = a ∧ M0 17 w 0 4 = b ∧ M0 17 w 0 5 = c) ∧ mR_workOut w w s a b c M = xR_either w 0 M0 := by
    have e2 : up (up (up M 17 w 0 3 a) 17 w 0 4 b) 17 w 0 5 c 12 w s 2 = nI n := by rw [upR (by decide), upR (by decide), upR (by decide), r1]
    have e0 : up (up (up M 17 w 0 3 a) 17 w 0 4 b) 17 w 0 5 c 12 w s 0 = nI u := by rw [upR (by decide), upR (by decide), upR (by decide), q1, eu]
    have hl : lenB s = 50 := by unfold lenB; rw [if_pos (by omega)]
    have hmin : (if Int32.ofNat (lenB s) < nI n then Int32.ofNat (lenB s) else nI n) = nI n := by
      rw [hl]
      exact if_neg (nI_nlt (a := 50) (b := n) r2 (by decide))
    refine ⟨up (up (up (up (up (up (up (up M 17 w 0 3 a) 17 w 0 4 b) 17 w 0 5 c) 17 w 0 0 (nI s)) 17 w 0 1 (nI n)) 17 w 0 2 (nI u)) 17 w 0 6 0) 17 w 0 7 (-1), ?_, ?_, ?_, ?_, ?_⟩
    · refine ⟨?_, by omega, ?_, r2, ?_, hu⟩
      · rw [up_ne (by omega), up_ne (by omega), up_ne (by omega), up_ne (by omega), up_eq]
      · rw [up_ne (by omega), up_ne (by omega), up_ne (by omega), up_eq]
      · rw [up_ne (by omega), up_ne (by omega), up_eq]
    · exact ⟨fun _ _ _ _ _ => rfl, by rw [up_ne (by omega), up_eq]; rfl, up_eq, by omega⟩
    · intro r w' i k hq
      rw [up_ne (by omega), up_ne (by omega), up_ne (by omega), up_ne (by omega), up_ne (by omega), up_ne (by omega), up_ne (by omega), up_ne (by omega)]
    · refine ⟨?_, ?_, ?_⟩
      · rw [up_ne (by omega), up_ne (by omega), up_ne (by omega), up_ne (by omega), up_ne (by omega), up_ne (by omega), up_ne (by omega), up_eq]
      · rw [up_ne (by omega), up_ne (by omega), up_ne (by omega), up_ne (by omega), up_ne (by omega), up_ne (by omega), up_eq]
      · rw [up_ne (by omega), up_ne (by omega), up_ne (by omega), up_ne (by omega), up_ne (by omega), up_eq]
    · unfold mR_workOut mR_begin
      simp only [e2, e0, hmin, if_true, Option.bind_some, bindE]
      rfl
  obtain ⟨M0, hC, hR, hM0, ⟨n3, n4, n5⟩, hw⟩ := hbeg
  have e13 : M0 13 w s = M 13 w s := funext fun k => hM0 13 w s k (by omega)
  have hk := either_ok hC M0 0 hR
  have hp : ∃ p', pOr (sgN (M0 13 w s) n) (pSing (sgN (M0 13 w s) n) u 5) 0 = .inr (code, p') := by
    rw [e13]
    unfold pText at r3
    cases hO : pOr (sgN (M 13 w s) n) (pSing (sgN (M 13 w s) n) u 5) 0 with
    | inl q =>
      rw [hO] at r3
      cases r3
    | inr x =>
      obtain ⟨c', p'⟩ := x
      rw [hO] at r3
      have r3 : (if p' < n then Sum.inl p' else Sum.inr (c', p') : RR) = .inr (code, p) := r3
      split at r3
      · cases r3
      · cases r3
        exact ⟨_, rfl⟩
  obtain ⟨p', hp⟩ := hp
  rw [hp] at hk
  obtain ⟨v, M', e, hR', hv⟩ := hk
  -- the reference
  have hK : ∃ N', mK_comesTo (nI s) a b c N = some (N' 49 0 0 0, N') ∧ SM (N' 49 0 0) [v] ∧ ∀ r w' i' k, r ≠ 49 → r ≠ 50 → N' r w' i' k = N r w' i' k := by
    have e3 : (420 : Int32) + 53 * nI s + 3 = nI (420 + 53 * s + 3) := ix3 420 53 s 3
    obtain ⟨N', a1, a2, a3⟩ := comes_loop (nm := nmM M0 w) (at0 := 420 + 53 * s + 3) (len := code.length) (by omega) (by omega) r5 code 0 fuel (up (up (up N 50 0 0 0 a) 50 0 0 1 b) 50 0 0 2 c) [] [v] (by omega) (by unfold fuel; omega) (by rw [upR (by decide), upR (by decide), upR (by decide), show 420 + 53 * s + 3 - 1 = 420 + 53 * s + 2 by omega, r4]) (fun k hk => by rw [upR (by decide), upR (by decide), upR (by decide), Nat.add_zero]; exact r6 k hk) (fun k hk => by
      rcases (by omega : k = 0 ∨ k = 1 ∨ k = 2) with rfl | rfl | rfl
      · rw [up_ne (by omega), up_ne (by omega), up_eq]; exact n3.symm
      · rw [up_ne (by omega), up_eq]; exact n4.symm
      · rw [up_eq]; exact n5.symm) trivial (Nat.le_refl _) (hv [])
    refine ⟨N', ?_, a2, fun r w' i' k q1 q2 => ?_⟩
    · unfold mK_comesTo mK_comesTob
      rw [e3]
      exact a1
    · rw [a3 r w' i' k q1, upR q2, upR q2, upR q2]
  obtain ⟨N', k1, k2, k3⟩ := hK
  have k2 : N' 49 0 0 0 = v := k2.1
  rw [k2] at k1
  refine ⟨v, M', N', hw.trans e, k1, fun r w' i k q => ?_, k3⟩
  rw [hR'.1 r w' i k (by omega)]
  exact hM0 r w' i k q
theorem RW.work {B : Nat} {M N : Mem} {w : Nat} (h : RW B M w (N 41 0 0)) {s : Nat} (hs : s < cn (N 41 0 0) 4) (a b c : Int32) : ∃ v M' N', mR_workOut w w s a b c M = some (v, M') ∧ mK_comesTo (nI s) a b c N = some (v, N') ∧ (∀ r w' i k, ¬ (r = 17 ∧ w' = w) → M' r w' i k = M r w' i k) ∧ ∀ r w' i' k, r ≠ 49 → r ≠ 50 → N' r w' i' k = N r w' i' k := work1 (by have := h.c.b4; omega) (h.s s hs) a b c
