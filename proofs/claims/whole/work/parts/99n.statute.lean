/-! ===== statute ===== -/
theorem fault_ok {M5 : Mem} {n u : Nat} (hn : n ≤ 50) (hu : u < 4) : (∃ q, pText (sgN (M5 13 0 12) n) n u = .inl q ∧ q ≤ 50 ∧ ∃ M', mR_faultOf 0 0 12 (nI n) (nI u) M5 = some (nI q, M') ∧ ∀ r w i k, ¬ (r = 17 ∧ w = 0) → M' r w i k = M5 r w i k) ∨ ∃ c p, pText (sgN (M5 13 0 12) n) n u = .inr (c, p) ∧ ∃ M', mR_faultOf 0 0 12 (nI n) (nI u) M5 = some (-1, M') ∧ ∀ r w i k, ¬ (r = 17 ∧ w = 0) → M' r w i k = M5 r w i k := by
  obtain ⟨M0, hM0⟩ : ∃ M0, M0 = up (up (up (up (up M5 17 0 0 0 (nI 12)) 17 0 0 1 (nI n)) 17 0 0 2 (nI u)) 17 0 0 6 0) 17 0 0 7 (-1) := ⟨_, rfl⟩
  have hl : lenB 12 = 50 := by
    unfold lenB
    rw [if_pos (by decide)]
  have hmin : (if Int32.ofNat (lenB 12) < nI n then Int32.ofNat (lenB 12) else nI n) = nI n := by
    rw [hl]
    exact if_neg (nI_nlt (a := 50) (b := n) hn (by decide))
  have hbeg : mR_begin 0 0 12 (nI n) (nI u) M5 = some M0 := by
    unfold mR_begin
    rw [if_pos (c := (0 : Nat) = 0) rfl, hM0]
    exact congrArg (fun t => some (up (up (up (up (up M5 17 0 0 0 (nI 12)) 17 0 0 1 t) 17 0 0 2 (nI u)) 17 0 0 6 0) 17 0 0 7 (-1))) hmin
  have hC : RC M0 0 12 n u := by
    rw [hM0]
    refine ⟨?_, by decide, ?_, hn, ?_, hu⟩
    · rw [up_ne (by omega), up_ne (by omega), up_ne (by omega), up_ne (by omega), up_eq]
    · rw [up_ne (by omega), up_ne (by omega), up_ne (by omega), up_eq]
    · rw [up_ne (by omega), up_ne (by omega), up_eq]
  have hR : RS M0 0 M0 0 (-1) := by
    refine ⟨fun _ _ _ _ _ => rfl, ?_, ?_, by omega⟩
    · rw [hM0, up_ne (by omega), up_eq]
      rfl
    · rw [hM0, up_eq]
  have hF : ∀ r w i k, ¬ (r = 17 ∧ w = 0) → M0 r w i k = M5 r w i k := by
    intro r w i k q
    rw [hM0, up_ne (by omega), up_ne (by omega), up_ne (by omega), up_ne (by omega), up_ne (by omega)]
  have e13 : M0 13 0 12 = M5 13 0 12 := funext fun k => hF 13 0 12 k (by omega)
  have hk : RP M0 0 (nmM M0 0) (xR_either 0 0 M0) (pOr (sgN (M0 13 0 12) n) (pSing (sgN (M0 13 0 12) n) u 5) 0) := either_ok hC M0 0 hR
  rw [e13] at hk
  unfold mR_faultOf
  rw [hbeg]
  simp only [Option.bind_some]
  unfold pText
  cases hx : pOr (sgN (M5 13 0 12) n) (pSing (sgN (M5 13 0 12) n) u 5) 0 with
  | inl q =>
    rw [hx] at hk
    obtain ⟨v, M', p', e, hS, hq⟩ := hk
    refine .inl ⟨q, rfl, hq, M', ?_, fun r w i k z => (hS.1 r w i k (by omega)).trans (hF r w i k z)⟩
    rw [e]
    simp only [Option.bind_some]
    rw [hS.2.2.1, if_neg (nI_pos (by omega))]
  | inr y =>
    obtain ⟨c, p⟩ := y
    rw [hx] at hk
    obtain ⟨v, M', e, hS, hv⟩ := hk
    have e1 : M' 17 0 0 1 = nI n := (hS.1 17 0 0 1 (by omega)).trans hC.2.2.1
    have p50 := hS.2.2.2
    rw [e]
    simp only [Option.bind_some]
    rw [hS.2.2.1, if_pos (c := (-1 : Int32) < 0) (by decide), hS.2.1, e1]
    by_cases z : p < n
    · refine .inl ⟨p, if_pos z, by omega, up M' 17 0 0 7 (nI p), ?_, fun r w i k q => ?_⟩
      · rw [if_pos (nI_lt z (by omega)), up_eq]
      · rw [up_ne (by omega)]
        exact (hS.1 r w i k (by omega)).trans (hF r w i k q)
    · refine .inr ⟨c, p, if_neg z, M', ?_, fun r w i k q => (hS.1 r w i k (by omega)).trans (hF r w i k q)⟩
      rw [if_neg (nI_nlt (by omega) (by omega))]
theorem K_statute_123 {s L : Nat} (hs : s < 12) (hL : L ≤ 50) (x3 : Int32) : ∀ (d i m : Nat) (N : Mem), i + d = L → d < m → N 40 0 0 10 = nI L → ∃ N', mK_statute_123 m x3 (nI (420 + 53 * s)) (nI i) N = some (x3, N') ∧ (∀ r w j k, ¬ (r = 41 ∧ w = 0 ∧ j = 0 ∧ 420 + 53 * s + 3 + i ≤ k ∧ k < 420 + 53 * s + 3 + L) → N' r w j k = N r w j k) ∧ ∀ k, i ≤ k → k < L → N' 41 0 0 (420 + 53 * s + 3 + k) = N 47 0 0 k
  | 0, i, m, N, hi, hm, h => by
    obtain ⟨m, rfl⟩ : ∃ j, m = j + 1 := ⟨m - 1, by omega⟩
    refine ⟨N, ?_, fun _ _ _ _ _ => rfl, fun k h1 h2 => by omega⟩
    show mK_statute_123b (mK_statute_123 m) x3 (nI (420 + 53 * s)) (nI i) N = _
    unfold mK_statute_123b
    rw [h, if_neg (nI_nlt (by omega) (by omega))]
  | d + 1, i, m, N, hi, hm, h => by
    obtain ⟨m, rfl⟩ : ∃ j, m = j + 1 := ⟨m - 1, by omega⟩
    obtain ⟨N', a1, a2, a3⟩ := K_statute_123 hs hL x3 d (i + 1) m (up N 41 0 0 (420 + 53 * s + 3 + i) (N 47 0 0 i)) (by omega) (by omega) (by rw [upR (by decide)]; exact h)
    refine ⟨N', ?_, fun r w j k q => ?_, fun k h1 h2 => ?_⟩
    · show mK_statute_123b (mK_statute_123 m) x3 (nI (420 + 53 * s)) (nI i) N = _
      unfold mK_statute_123b
      have ix : nI (420 + 53 * s) + 3 + nI i = nI (420 + 53 * s + 3 + i) := by
        have e : nI (420 + 53 * s) + 3 = nI (420 + 53 * s + 3) := nI_add _ 3
        rw [e, nI_add]
      rw [h, if_pos (nI_lt (by omega) (by omega)), ixx_nI (by omega) (by decide), ix, ixx_nI (by omega) (by decide), nI_1]
      exact a1
    · rw [a2 r w j k (by omega), up_ne (by omega)]
    · by_cases e : k = i
      · subst e
        rw [a2 41 0 0 _ (by omega), up_eq]
      · rw [a3 k (by omega) h2, upR (by decide)]
theorem SM_get {R : Row} : ∀ {st : List Int32}, SM R st → ∀ k, k < st.length → R k = st.reverse.getD k 0
  | [], _, k, hk => absurd hk (Nat.not_lt_zero _)
  | a :: r, h, k, hk => by
    have hk : k < r.length + 1 := hk
    have e : (a :: r).reverse = r.reverse ++ [a] := List.reverse_cons
    have el : r.reverse.length = r.length := List.length_reverse
    rw [e, List.getD_eq_getElem?_getD]
    by_cases z : k = r.length
    · subst z
      rw [List.getElem?_append_right (by omega), el, Nat.sub_self]
      exact h.1
    · rw [List.getElem?_append_left (by omega), ← List.getD_eq_getElem?_getD]
      exact SM_get h.2 k (by omega)
theorem s_statute {B : Nat} {M N : Mem} (h : Rel B M N) (x1 x2 : Int32) : Sim (Rel (B + 1)) (mF_statute x1 x2 M) (mK_statute x1 x2 N) := by
  have b4 := h.1.c.b4
  have b7 := h.1.c.b7
  have e4 := h.1.c.e4
  have e7 := h.1.c.e7
  have n4 := h.1.c.n4
  have n7 := h.1.c.n7
  unfold mF_statute mK_statute mK_statuteb
  simp only [F_isUse_eq, K_in_eq, F_isDay_eq, K_isDay_eq, Option.bind_some, bI_ite, bindE]
  refine Sim.ite (fun hu => ?_) (fun _ => Sim.f1 h)
  refine Sim.ite (fun hd => ?_) (fun _ => Sim.f1 h)
  rw [e4]
  by_cases hf : N 41 0 0 4 = 12
  · rw [if_pos hf, if_neg (by rw [hf]; decide)]
    exact Sim.f4 h
  have hl : N 41 0 0 4 < 12 := (cnt_lt (b := 12) n4 b4 (by decide)).mpr hf
  rw [if_neg hf, if_pos hl]
  have t4 : cn (N 41 0 0) 4 < 12 := by
    rw [n4] at hl
    exact (nI_ltI (b := 12) (by omega) (by decide)).mp hl
  obtain ⟨u, _, hu3, rfl⟩ := in_lit (a := 0) (b := 3) (by decide) hu (by decide)
  rw [e7, n7]
  -- the reference's reading
  have hY : YC N (cn (N 41 0 0) 7) (sgN (M 13 0 12) (cn (N 41 0 0) 7)) := by
    refine ⟨n7, b7, fun p hp => ?_, fun p hp => sg_end hp⟩
    unfold sgN
    rw [if_pos hp, ← h.1.a p hp]
    obtain ⟨j, hj, e⟩ := pk_andE (M 13 0 12 p) (m := 255) 8 rfl
    rw [e, nI_clamp (by omega)]
    exact ⟨rfl, by omega⟩
  have hK := K_reads_ok hY (use := u) (by omega)
  have hF := fault_ok (M5 := up M 1 0 0 14 0) (n := cn (N 41 0 0) 7) (u := u) b7 (by omega)
  rw [show up M 1 0 0 14 0 13 0 12 = M 13 0 12 from upRr (by decide)] at hF
  have hT : ∀ f' : Row, f' 7 = 0 → cn f' 7 = 0 := fun f' e => cn_nI (n := 0) e (by decide)
  rcases hF with ⟨q, p1, hq, M', m1, m2⟩ | ⟨c, p, p1, M', m1, m2⟩
  · rcases hK with ⟨q', p2, N', k1, k2, k3⟩ | ⟨c', p', p2, _⟩
    · rw [p1] at p2
      cases p2
      rw [m1, k1]
      simp only [Option.bind_some, if_true]
      rw [if_neg (c := nI q < 0) (nI_pos (by omega)), up_ne (by omega), k3]
      refine Sim.ret (h.world (by omega) ?_ (fun r w i k _ _ _ _ z => by rw [m2 r w i k (by omega), up_ne (by omega)]) (fun r k z => by rw [up_ne (by omega), k2 r 0 0 k (by omega)]))
      have f1 : up N' 41 0 0 7 0 41 0 0 = upd (N 41 0 0) 7 0 := by
        rw [up_row]
        exact congrArg (fun g => upd g 7 0) (funext fun k => k2 41 0 0 k (by omega))
      rw [f1]
      refine h.1.tape (by omega) (fun r i k _ _ z => by rw [m2 r 0 i k (by omega), up_ne (by omega)]) (fun k z => by rw [pk_un (by omega)]) ?_ ?_
      · refine h.1.c.set (j := 7) (n := 0) (by decide) (by decide) (fun k hk e => ?_) (fun k hk e => ?_) ?_ pk_us
        · have := slC_ne hk (by decide) e
          have e' : slC 7 = 14 := rfl
          rw [m2 1 0 0 _ (by omega), up_ne (by omega)]
        · rw [pk_un (by omega)]
        · show M' 1 0 0 14 = nI 0
          rw [m2 1 0 0 14 (by omega), up_eq]
          rfl
      · intro j hj
        rw [hT _ pk_us] at hj
        exact absurd hj (Nat.not_lt_zero _)
    · rw [p1] at p2
      cases p2
  · rcases hK with ⟨q', p2, _⟩ | ⟨c', p', p2, hlen, N', k1, k2⟩
    · rw [p1] at p2
      cases p2
    · rw [p1] at p2
      cases p2
      rw [m1, k1]
      simp only [Option.bind_some]
      rw [if_pos (c := (-1 : Int32) < 0) (by decide), if_neg (c := (1 : Int32) = 0) (by decide)]
      have hcl : c.reverse.length = c.length := List.length_reverse
      have g4 : M' 1 0 0 10 = nI (cn (N 41 0 0) 4) := by rw [m2 1 0 0 10 (by omega), up_ne (by omega), e4, n4]
      generalize hs : cn (N 41 0 0) 4 = s at *
      generalize hn : cn (N 41 0 0) 7 = n at *
      rw [g4, ixx_nI t4 (by decide)]
      -- the class
      have hlenS : lenB s = 50 := by
        unfold lenB
        rw [if_pos (by omega)]
      have hlenT : lenB 12 = 50 := by
        unfold lenB
        rw [if_pos (by decide)]
      obtain ⟨M3, hM3⟩ : ∃ M3, M3 = up (up (up M' 12 0 s 0 (nI u)) 12 0 s 1 x2) 12 0 s 2 (nI n) := ⟨_, rfl⟩
      have hU : mU_begin 0 s (nI u) x2 0 12 (nI n) M' = some (cpM M3 13 0 12 0 0 s 0 50) := by
        unfold mU_begin
        rw [hlenS, hlenT, if_neg (by decide), hM3]
      rw [hU]
      simp only [Option.bind_some]
      have cpo : ∀ r w i k, ¬ (r = 13 ∧ w = 0 ∧ i = s) → cpM M3 13 0 12 0 0 s 0 50 r w i k = M3 r w i k := by
        intro r w i k z
        exact if_neg (fun q => z ⟨q.1, q.2.1, q.2.2.1⟩)
      have cpi : ∀ k, k < 50 → cpM M3 13 0 12 0 0 s 0 50 13 0 s k = M3 13 0 12 k := by
        intro k hk
        refine (if_pos ⟨rfl, rfl, rfl, Nat.zero_le _, by omega⟩).trans ?_
        show M3 13 0 12 (0 + (k - 0)) = _
        rw [Nat.zero_add, Nat.sub_zero]
      have M3o : ∀ r w i k, ¬ (r = 12 ∧ w = 0 ∧ i = s) → ¬ (r = 17 ∧ w = 0) → M3 r w i k = up M 1 0 0 14 0 r w i k := by
        intro r w i k z z2
        rw [hM3, up_ne (by omega), up_ne (by omega), up_ne (by omega), m2 r w i k z2]
      have g10 : cpM M3 13 0 12 0 0 s 0 50 1 0 0 10 = nI s := by
        rw [cpo _ _ _ _ (by omega), M3o _ _ _ _ (by omega) (by omega), up_ne (by omega), e4, n4]
      rw [g10, nI_1]
      generalize cpM M3 13 0 12 0 0 s 0 50 = M4 at *
      -- the reference
      have i0 : (420 : Int32) + 53 * nI s = nI (420 + 53 * s) := ix2 420 53 s
      have i1 : nI (420 + 53 * s) + 1 = nI (420 + 53 * s + 1) := nI_1 _
      have i2 : nI (420 + 53 * s) + 2 = nI (420 + 53 * s + 2) := nI_add _ 2
      rw [n4, i0, i1, i2]
      rw [ixx_nI (show 420 + 53 * s < 1502 by omega) (by decide), ixx_nI (show 420 + 53 * s + 1 < 1502 by omega) (by decide), ixx_nI (show 420 + 53 * s + 2 < 1502 by omega) (by decide)]
      have k4 : up N' 41 0 0 7 0 41 0 0 4 + 1 = nI (s + 1) := by rw [up_ne (by omega), k2.1 41 0 0 4 (by omega), n4, nI_1]
      rw [k4]
      obtain ⟨N5, hN5⟩ : ∃ N5, N5 = up (up (up (up N' 41 0 0 7 0) 41 0 0 4 (nI (s + 1))) 41 0 0 (420 + 53 * s) (nI u)) 41 0 0 (420 + 53 * s + 1) x2 := ⟨_, rfl⟩
      rw [← hN5]
      have k10 : N5 40 0 0 10 = nI c.length := by
        rw [hN5, upR (by decide), upR (by decide), upR (by decide), upR (by decide), k2.2.1, hcl]
      rw [k10]
      obtain ⟨N6, a1, a2, a3⟩ := K_statute_123 t4 hlen (nI s) c.length 0 fuel (up N5 41 0 0 (420 + 53 * s + 2) (nI c.length)) (by omega) (by unfold fuel; omega) (by rw [upR (by decide)]; exact k10)
      rw [show mK_statute_123 fuel (nI s) (nI (420 + 53 * s)) 0 _ = _ from a1]
      -- the two worlds
      have fo : ∀ k, ((k < 420 + 53 * s ∧ k ≠ 4 ∧ k ≠ 7) ∨ 473 + 53 * s ≤ k) → N6 41 0 0 k = N 41 0 0 k := by
        intro k z
        rw [a2 41 0 0 k (by omega), up_ne (by omega), hN5, up_ne (by omega), up_ne (by omega), up_ne (by omega), up_ne (by omega), k2.1 41 0 0 k (by omega)]
      have fr : ∀ r k, r ≠ 41 → ¬ ((r = 40 ∧ (k = 10 ∨ k = 11 ∨ k = 12)) ∨ r = 47 ∨ r = 48) → N6 r 0 0 k = N r 0 0 k := by
        intro r k z z2
        rw [a2 r 0 0 k (by omega), upR z, hN5, upR z, upR z, upR z, upR z, k2.1 r 0 0 k z2]
      have f7 : N6 41 0 0 7 = 0 := by
        rw [a2 41 0 0 7 (by omega), up_ne (by omega), hN5, up_ne (by omega), up_ne (by omega), up_ne (by omega), up_eq]
      have f4 : N6 41 0 0 4 = nI (s + 1) := by
        rw [a2 41 0 0 4 (by omega), up_ne (by omega), hN5, up_ne (by omega), up_ne (by omega), up_eq]
      have s0 : N6 41 0 0 (420 + 53 * s) = nI u := by
        rw [a2 41 0 0 _ (by omega), up_ne (by omega), hN5, up_ne (by omega), up_eq]
      have s1 : N6 41 0 0 (420 + 53 * s + 1) = x2 := by
        rw [a2 41 0 0 _ (by omega), up_ne (by omega), hN5, up_eq]
      have s2 : N6 41 0 0 (420 + 53 * s + 2) = nI c.length := by
        rw [a2 41 0 0 _ (by omega), up_eq]
      have s3 : ∀ k, k < c.length → N6 41 0 0 (420 + 53 * s + 3 + k) = c.getD k 0 := by
        intro k hk
        rw [a3 k (by omega) hk, upR (by decide), hN5, upR (by decide), upR (by decide), upR (by decide), upR (by decide), SM_get k2.2.2.2.2.1 k (by omega), List.reverse_reverse]
      have Mo : ∀ r w i k, ¬ (((r = 12 ∨ r = 13) ∧ w = 0 ∧ i = s) ∨ (r = 1 ∧ w = 0 ∧ i = 0 ∧ (k = 10 ∨ k = 14)) ∨ (r = 17 ∧ w = 0)) → up M4 1 0 0 10 (nI (s + 1)) r w i k = M r w i k := by
        intro r w i k z
        rw [up_ne (by omega), cpo r w i k (by omega), M3o r w i k (by omega) (by omega), up_ne (by omega)]
      refine Sim.ret (h.world (by omega) ?_ (fun r w i k _ _ _ _ z => Mo r w i k (by omega)) (fun r k z => fr r k (by omega) (by omega)))
      refine h.1.newStatute (by omega) (fun r i k _ _ z => Mo r 0 i k (by omega)) (fun k z => fo k (by omega)) ?_ ?_ (hT _ f7) ?_
      · have hX : XC (up M 1 0 0 14 0) 0 (upd (N 41 0 0) 7 0) := by
          refine h.1.c.set (j := 7) (n := 0) (by decide) (by decide) (fun k hk e => ?_) (fun k hk e => ?_) up_eq pk_us
          · have := slC_ne hk (by decide) e
            have e' : slC 7 = 14 := rfl
            rw [up_ne (by omega)]
          · rw [pk_un (by omega)]
        refine hX.set (j := 4) (n := s + 1) (by decide) (by show s + 1 ≤ 12; omega) (fun k hk e => ?_) (fun k hk e => ?_) up_eq f4
        · have := slC_ne hk (by decide) e
          have e' : slC 4 = 10 := rfl
          rw [up_ne (by omega), cpo 1 0 0 _ (by omega), M3o 1 0 0 _ (by omega) (by omega)]
        · by_cases e7' : k = 7
          · rw [e7', f7, pk_us]
          · rw [pk_un e7', fo k (by omega)]
      · rw [hs]
        exact cn_nI f4 (by omega)
      · rw [hs]
        have w0 : up M4 1 0 0 10 (nI (s + 1)) 12 0 s 0 = nI u := by
          rw [upR (by decide), cpo _ _ _ _ (by omega), hM3, up_ne (by omega), up_ne (by omega), up_eq]
        have w1 : up M4 1 0 0 10 (nI (s + 1)) 12 0 s 1 = x2 := by
          rw [upR (by decide), cpo _ _ _ _ (by omega), hM3, up_ne (by omega), up_eq]
        have w2 : up M4 1 0 0 10 (nI (s + 1)) 12 0 s 2 = nI n := by
          rw [upR (by decide), cpo _ _ _ _ (by omega), hM3, up_eq]
        refine ⟨w0.trans s0.symm, w1.trans s1.symm, ⟨u, by omega, s0⟩, n, p, c, w2, b7, ?_, s2, hlen, s3⟩
        have ecn : cn (N6 41 0 0) (420 + 53 * s) = u := cn_nI s0 (by omega)
        have eT : sgN (up M4 1 0 0 10 (nI (s + 1)) 13 0 s) n = sgN (M 13 0 12) n := by
          funext q
          unfold sgN
          by_cases hq : q < n
          · rw [if_pos hq, if_pos hq, upR (by decide), cpi q (by omega), M3o 13 0 12 q (by omega) (by omega), upR (by decide)]
          · rw [if_neg hq, if_neg hq]
        rw [ecn, eT]
        exact p1
