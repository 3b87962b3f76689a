/-! ===== how far: the reference's search ends at the same days ===== -/
def sm8 (e : Nat → Nat) : Nat := e 0 + e 1 + e 2 + e 3 + e 4 + e 5 + e 6 + e 7
def st8 (e : Nat → Nat) (y v : Nat) : Nat → Nat := fun t => if t = y then v else e t
theorem st8_y {e : Nat → Nat} {y v : Nat} : st8 e y v y = v := if_pos rfl
theorem st8_o {e : Nat → Nat} {y v t : Nat} (h : t ≠ y) : st8 e y v t = e t := if_neg h
theorem sm8_st {e : Nat → Nat} {y v : Nat} (hy : y < 8) : sm8 (st8 e y v) + e y = sm8 e + v := by
  unfold sm8
  rcases (by omega : y = 0 ∨ y = 1 ∨ y = 2 ∨ y = 3 ∨ y = 4 ∨ y = 5 ∨ y = 6 ∨ y = 7) with rfl | rfl | rfl | rfl | rfl | rfl | rfl | rfl
  · rw [st8_y, st8_o (t := 1) (by decide), st8_o (t := 2) (by decide), st8_o (t := 3) (by decide), st8_o (t := 4) (by decide), st8_o (t := 5) (by decide), st8_o (t := 6) (by decide), st8_o (t := 7) (by decide)]; omega
  · rw [st8_o (t := 0) (by decide), st8_y, st8_o (t := 2) (by decide), st8_o (t := 3) (by decide), st8_o (t := 4) (by decide), st8_o (t := 5) (by decide), st8_o (t := 6) (by decide), st8_o (t := 7) (by decide)]; omega
  · rw [st8_o (t := 0) (by decide), st8_o (t := 1) (by decide), st8_y, st8_o (t := 3) (by decide), st8_o (t := 4) (by decide), st8_o (t := 5) (by decide), st8_o (t := 6) (by decide), st8_o (t := 7) (by decide)]; omega
  · rw [st8_o (t := 0) (by decide), st8_o (t := 1) (by decide), st8_o (t := 2) (by decide), st8_y, st8_o (t := 4) (by decide), st8_o (t := 5) (by decide), st8_o (t := 6) (by decide), st8_o (t := 7) (by decide)]; omega
  · rw [st8_o (t := 0) (by decide), st8_o (t := 1) (by decide), st8_o (t := 2) (by decide), st8_o (t := 3) (by decide), st8_y, st8_o (t := 5) (by decide), st8_o (t := 6) (by decide), st8_o (t := 7) (by decide)]; omega
  · rw [st8_o (t := 0) (by decide), st8_o (t := 1) (by decide), st8_o (t := 2) (by decide), st8_o (t := 3) (by decide), st8_o (t := 4) (by decide), st8_y, st8_o (t := 6) (by decide), st8_o (t := 7) (by decide)]; omega
  · rw [st8_o (t := 0) (by decide), st8_o (t := 1) (by decide), st8_o (t := 2) (by decide), st8_o (t := 3) (by decide), st8_o (t := 4) (by decide), st8_o (t := 5) (by decide), st8_y, st8_o (t := 7) (by decide)]; omega
  · rw [st8_o (t := 0) (by decide), st8_o (t := 1) (by decide), st8_o (t := 2) (by decide), st8_o (t := 3) (by decide), st8_o (t := 4) (by decide), st8_o (t := 5) (by decide), st8_o (t := 6) (by decide), st8_y]; omega
def ct8 (e : Nat → Nat) : Nat := fb_ct (fun t => decide (e t < 100)) 8
theorem ct8_le (e : Nat → Nat) : ct8 e ≤ 8 := fb_ct_le _ _
theorem ct8_st {e : Nat → Nat} {y v : Nat} (hy : y < 8) (hv : v < 100) : ct8 (st8 e y v) + (if e y < 100 then 1 else 0) = ct8 e + 1 := by
  have z := fb_ct_upd (fun t => decide (e t < 100)) true (i := y) (n := 8) hy
  have e1 : ct8 (st8 e y v) = fb_ct (fun k => if k = y then true else decide (e k < 100)) 8 := by
    refine fb_ct_cong fun k hk => ?_
    by_cases q : k = y
    · rw [q, st8_y, if_pos rfl]
      exact decide_eq_true hv
    · rw [st8_o q, if_neg q]
  rw [e1]
  by_cases q : e y < 100
  · rw [if_pos q]
    simp only [q, decide_true, if_true] at z
    exact z
  · rw [if_neg q]
    simp only [q, decide_false, if_true] at z
    exact z
def EV8 (N : Mem) (e : Nat → Nat) : Prop := ∀ t, t < 8 → N 46 0 0 t = if e t = 100 then -1 else nI (e t)
def Inv8 (f : Row) (a : Nat) (e : Nat → Nat) : Prop := e a = 0 ∧ ∀ t, t < 8 → e t = 100 ∨ (e t + 9 ≤ 9 * ct8 e ∧ ∃ k, wk f k a t (e t))
theorem Inv8.le {f : Row} {a : Nat} {e : Nat → Nat} (h : Inv8 f a e) {t : Nat} (ht : t < 8) : e t = 100 ∨ e t ≤ 63 := by
  have := ct8_le e
  rcases h.2 t ht with q | q
  · exact .inl q
  · exact .inr (by omega)
theorem Inv8.relax {f : Row} {a : Nat} {e : Nat → Nat} (h : Inv8 f a e) {u y d : Nat} (hu : u < 8) (hy : y < 8) (d9 : d ≤ 9) (hr : rd f u y d) (hlt : e u + d < e y) : Inv8 f a (st8 e y (e u + d)) := by
  have lu := h.le hu
  have ly := h.le hy
  have hya : a ≠ y := fun q => by
    have := h.1
    rw [q] at this
    omega
  have c := ct8_st (e := e) (v := e u + d) hy (by omega)
  rcases h.2 u hu with q | ⟨q1, k, q2⟩
  · omega
  refine ⟨by rw [st8_o hya]; exact h.1, fun t ht => ?_⟩
  by_cases et : t = y
  · subst et
    rw [st8_y]
    refine .inr ⟨?_, k + 1, u, e u, d, hu, by omega, q2, hr, rfl⟩
    by_cases z : e t < 100
    · rw [if_pos z] at c
      rcases h.2 t ht with p | ⟨p1, p2⟩
      · omega
      · omega
    · rw [if_neg z] at c
      omega
  · rw [st8_o et]
    have : ct8 e ≤ ct8 (st8 e y (e u + d)) := by
      by_cases z : e y < 100
      · rw [if_pos z] at c
        omega
      · rw [if_neg z] at c
        omega
    rcases h.2 t ht with p | ⟨p1, p2⟩
    · exact .inl p
    · exact .inr ⟨by omega, p2⟩
/-- the road and the way along it -/
def dir8 (f : Row) (j u y d : Nat) : Prop := f (52 + 3 * (j / 2) + j % 2) = nI u ∧ f (52 + 3 * (j / 2) + 1 - j % 2) = nI y ∧ f (52 + 3 * (j / 2) + 2) = nI d
theorem dir8_ex {f : Row} (hK : KR f) (hb0 : cn f 0 ≤ 8) {j : Nat} (hj : j < 2 * cn f 1) : ∃ u y d, u < 8 ∧ y < 8 ∧ d ≤ 9 ∧ dir8 f j u y d ∧ rd f u y d := by
  obtain ⟨a, b, d, q1, q2, q3, q4, q5, q6, q7, q8⟩ := hK (j / 2) (by omega)
  rcases (by omega : j % 2 = 0 ∨ j % 2 = 1) with z | z
  · exact ⟨a, b, d, by omega, by omega, q5, ⟨by rw [z]; exact q6, by rw [z]; exact q7, q8⟩, j / 2, by omega, q8, .inl ⟨q6, q7⟩⟩
  · exact ⟨b, a, d, by omega, by omega, q5, ⟨by rw [z]; exact q7, by rw [z]; exact q6, q8⟩, j / 2, by omega, q8, .inr ⟨q6, q7⟩⟩
theorem far_pass {f : Row} {a : Nat} (hK : KR f) (hb0 : cn f 0 ≤ 8) (hb1 : cn f 1 ≤ 16) (h1 : f 1 = nI (cn f 1)) (r32 : Int32 → Int32 → Mem → Option (Int32 × Mem)) (x2 : Int32) : ∀ (q i n : Nat) (N : Mem) (e : Nat → Nat) (ch : Int32), i + q = 2 * cn f 1 → q < n → N 41 0 0 = f → EV8 N e → Inv8 f a e → ∃ N' e' ch', mK_farOf_41 r32 n x2 ch (nI i) N = r32 x2 ch' N' ∧ N' 41 0 0 = f ∧ EV8 N' e' ∧ Inv8 f a e' ∧ (∀ r w i k, r ≠ 46 → N' r w i k = N r w i k) ∧ ((ch' = ch ∧ e' = e ∧ ∀ j, i ≤ j → j < 2 * cn f 1 → ∀ u y d, u < 8 → y < 8 → d ≤ 9 → dir8 f j u y d → e y ≤ e u + d) ∨ (ch' = 1 ∧ sm8 e' < sm8 e))
  | 0, i, n, N, e, ch, hi, hn, hN, hE, hI => by
    obtain ⟨n, rfl⟩ : ∃ k, n = k + 1 := ⟨n - 1, by omega⟩
    refine ⟨N, e, ch, ?_, hN, hE, hI, fun _ _ _ _ _ => rfl, .inl ⟨rfl, rfl, fun j h1 h2 => by omega⟩⟩
    show mK_farOf_41b r32 (mK_farOf_41 r32 n) x2 ch (nI i) N = _
    unfold mK_farOf_41b
    have e2 : (2 : Int32) * nI (cn f 1) = nI (2 * cn f 1) := pk_mul 2 _
    rw [hN, h1, e2, if_neg (nI_nlt (by omega) (by omega))]
  | q + 1, i, n, N, e, ch, hi, hn, hN, hE, hI => by
    obtain ⟨n, rfl⟩ : ∃ k, n = k + 1 := ⟨n - 1, by omega⟩
    obtain ⟨u, y, d, hu, hy, d9, ⟨eu, ey, ed⟩, hr⟩ := dir8_ex hK hb0 (show i < 2 * cn f 1 by omega)
    have lu := hI.le hu
    have ly := hI.le hy
    -- what the step does
    have hs : (mK_farOf_41 r32 (n + 1) x2 ch (nI i) N = mK_farOf_41 r32 n x2 ch (nI (i + 1)) N ∧ e y ≤ e u + d) ∨ (mK_farOf_41 r32 (n + 1) x2 ch (nI i) N = mK_farOf_41 r32 n x2 1 (nI (i + 1)) (up N 46 0 0 y (nI (e u + d))) ∧ e u + d < e y) := by
      show (mK_farOf_41b r32 (mK_farOf_41 r32 n) x2 ch (nI i) N = _ ∧ _) ∨ (mK_farOf_41b r32 (mK_farOf_41 r32 n) x2 ch (nI i) N = _ ∧ _)
      unfold mK_farOf_41b
      have e2 : (2 : Int32) * nI (cn f 1) = nI (2 * cn f 1) := pk_mul 2 _
      have p1 : nI i / 2 = nI (i / 2) := pk_div (d := 2) (by omega) (by decide) (by decide)
      have p2 : nI i - nI i / 2 * 2 = nI (i % 2) := pk_rem (d := 2) (by omega) (by decide) (by decide)
      have p3 : (52 : Int32) + 3 * nI (i / 2) + nI (i % 2) = nI (52 + 3 * (i / 2) + i % 2) := ix3 52 3 (i / 2) (i % 2)
      have p4 : (52 : Int32) + 3 * nI (i / 2) + 1 = nI (52 + 3 * (i / 2) + 1) := ix3 52 3 (i / 2) 1
      have p5 : (52 : Int32) + 3 * nI (i / 2) + 2 = nI (52 + 3 * (i / 2) + 2) := ix3 52 3 (i / 2) 2
      have p6 : nI (52 + 3 * (i / 2) + 1) - nI (i % 2) = nI (52 + 3 * (i / 2) + 1 - i % 2) := pk_sub (by omega)
      rw [p2, p1, p3, p4, p5, p6, hN, h1, e2, if_pos (nI_lt (by omega) (by omega)), ixx_nI (by omega) (by decide), ixx_nI (by omega) (by decide), eu, ey, ixx_nI hu (by decide), ixx_nI (by omega) (by decide), ixx_nI hu (by decide), ed, hE u hu, nI_1]
      rcases lu with zu | zu
      · rw [if_pos zu, if_pos (by decide)]
        exact .inl ⟨rfl, by omega⟩
      · rw [if_neg (show ¬ e u = 100 by omega), if_neg (nI_pos (by omega))]
        simp only [ixx_nI hy (show 8 < 2 ^ 31 by decide), hE y hy, nI_add]
        rcases ly with zy | zy
        · rw [if_pos zy, if_pos (by decide)]
          exact .inr ⟨rfl, by omega⟩
        · rw [if_neg (show ¬ e y = 100 by omega), if_neg (nI_pos (by omega))]
          by_cases z : e y ≤ e u + d
          · rw [if_pos (nI_le z (by omega))]
            exact .inl ⟨rfl, z⟩
          · rw [if_neg (fun zz => z ((nI_leI (by omega) (by omega)).mp zz))]
            exact .inr ⟨rfl, by omega⟩
    rcases hs with ⟨s1, s2⟩ | ⟨s1, s2⟩
    · obtain ⟨N', e', ch', a1, a2, a3, a4, a5, a6⟩ := far_pass hK hb0 hb1 h1 r32 x2 q (i + 1) n N e ch (by omega) (by omega) hN hE hI
      refine ⟨N', e', ch', s1.trans a1, a2, a3, a4, a5, ?_⟩
      rcases a6 with ⟨c1, c2, c3⟩ | c
      · refine .inl ⟨c1, c2, fun j j1 j2 u' y' d' hu' hy' hd' hd => ?_⟩
        by_cases ej : j = i
        · subst ej
          obtain ⟨k1, k2, k3⟩ := hd
          rw [eu] at k1
          rw [ey] at k2
          rw [ed] at k3
          have w1 := (nI_eq (by omega) (by omega)).mp k1
          have w2 := (nI_eq (by omega) (by omega)).mp k2
          have w3 := (nI_eq (by omega) (by omega)).mp k3
          subst w1 w2 w3
          exact s2
        · exact c3 j (by omega) j2 u' y' d' hu' hy' hd' hd
      · exact .inr c
    · have hE' : EV8 (up N 46 0 0 y (nI (e u + d))) (st8 e y (e u + d)) := by
        intro t ht
        by_cases et : t = y
        · rw [et, up_eq, st8_y, if_neg (by omega)]
        · rw [up_ne (by omega), st8_o et]
          exact hE t ht
      obtain ⟨N', e', ch', a1, a2, a3, a4, a5, a6⟩ := far_pass hK hb0 hb1 h1 r32 x2 q (i + 1) n (up N 46 0 0 y (nI (e u + d))) (st8 e y (e u + d)) 1 (by omega) (by omega) (by funext k; rw [upR (by decide), hN]) hE' (hI.relax hu hy d9 hr s2)
      refine ⟨N', e', ch', s1.trans a1, a2, a3, a4, fun r w i k hk => by rw [a5 r w i k hk, upR hk], .inr ?_⟩
      have sm := sm8_st (e := e) (v := e u + d) hy
      rcases a6 with ⟨c1, c2, c3⟩ | ⟨c1, c2⟩
      · refine ⟨c1, ?_⟩
        rw [c2]
        omega
      · exact ⟨c1, by omega⟩
theorem far_out {f : Row} {a b : Nat} (hK : KR f) (hb0 : cn f 0 ≤ 8) (hb1 : cn f 1 ≤ 16) (h1 : f 1 = nI (cn f 1)) (hb : b < 8) : ∀ (S n : Nat) (N : Mem) (e : Nat → Nat), sm8 e ≤ S → S + 1 < n → N 41 0 0 = f → EV8 N e → Inv8 f a e → ∃ N' e', mK_farOf_32 n (nI b) 1 N = some (if e' b = 100 then -1 else nI (e' b), N') ∧ Inv8 f a e' ∧ (∀ r w i k, r ≠ 46 → N' r w i k = N r w i k) ∧ ∀ j, j < 2 * cn f 1 → ∀ u y d, u < 8 → y < 8 → d ≤ 9 → dir8 f j u y d → e' y ≤ e' u + d := by
  intro S
  induction S with
  | zero =>
    intro n N e hS hn hN hE hI
    obtain ⟨n, rfl⟩ : ∃ k, n = k + 1 + 1 := ⟨n - 2, by omega⟩
    obtain ⟨N', e', ch', a1, a2, a3, a4, a5, a6⟩ := far_pass (a := a) hK hb0 hb1 h1 (mK_farOf_32 (n + 1)) (nI b) (2 * cn f 1) 0 fuel N e 0 (by omega) (by unfold fuel; omega) hN hE hI
    rcases a6 with ⟨c1, c2, c3⟩ | ⟨c1, c2⟩
    · refine ⟨N', e', ?_, a4, a5, fun j hj => ?_⟩
      · show mK_farOf_32b (mK_farOf_41 (mK_farOf_32 (n + 1)) fuel) (nI b) 1 N = _
        unfold mK_farOf_32b
        rw [if_neg (by decide), show mK_farOf_41 (mK_farOf_32 (n + 1)) fuel (nI b) 0 0 N = _ from a1, c1]
        show mK_farOf_32b (mK_farOf_41 (mK_farOf_32 n) fuel) (nI b) 0 N' = _
        unfold mK_farOf_32b
        rw [if_pos rfl, ixx_nI hb (by decide), a3 b hb]
      · rw [c2]
        exact c3 j (by omega) hj
    · omega
  | succ S ih =>
    intro n N e hS hn hN hE hI
    obtain ⟨n, rfl⟩ : ∃ k, n = k + 1 + 1 := ⟨n - 2, by omega⟩
    obtain ⟨N', e', ch', a1, a2, a3, a4, a5, a6⟩ := far_pass (a := a) hK hb0 hb1 h1 (mK_farOf_32 (n + 1)) (nI b) (2 * cn f 1) 0 fuel N e 0 (by omega) (by unfold fuel; omega) hN hE hI
    have st : mK_farOf_32 (n + 1 + 1) (nI b) 1 N = mK_farOf_32 (n + 1) (nI b) ch' N' := by
      show mK_farOf_32b (mK_farOf_41 (mK_farOf_32 (n + 1)) fuel) (nI b) 1 N = _
      unfold mK_farOf_32b
      rw [if_neg (by decide)]
      exact a1
    rw [st]
    rcases a6 with ⟨c1, c2, c3⟩ | ⟨c1, c2⟩
    · refine ⟨N', e', ?_, a4, a5, fun j hj => ?_⟩
      · rw [c1]
        show mK_farOf_32b (mK_farOf_41 (mK_farOf_32 n) fuel) (nI b) 0 N' = _
        unfold mK_farOf_32b
        rw [if_pos rfl, ixx_nI hb (by decide), a3 b hb]
      · rw [c2]
        exact c3 j (by omega) hj
    · rw [c1]
      obtain ⟨N2, e2, d1, d2, d3, d4⟩ := ih (n + 1) N' e' (by omega) (by omega) a2 a3 a4
      exact ⟨N2, e2, d1, d2, fun r w i k hk => by rw [d3 r w i k hk, a5 r w i k hk], d4⟩
/-- where no road leads nearer, the days are the fewest -/
theorem far_val {f : Row} {D : Nat → Nat → Nat} {a b : Nat} {e : Nat → Nat} (ha : a < 8) (hb : b < 8) (hD : Met3 f D) (hI : Inv8 f a e) (hc : ∀ j, j < 2 * cn f 1 → ∀ u y d, u < 8 → y < 8 → d ≤ 9 → dir8 f j u y d → e y ≤ e u + d) : (D a b = NOW ∧ e b = 100) ∨ (D a b = e b ∧ e b ≤ 63) := by
  have hrd : ∀ u y d, u < 8 → y < 8 → d < 10 → rd f u y d → e y ≤ e u + d := by
    rintro u y d hu hy hd ⟨r, hr, q, q1 | q1⟩
    · refine hc (2 * r) (by omega) u y d hu hy (by omega) ⟨?_, ?_, ?_⟩
      · rw [show 52 + 3 * (2 * r / 2) + 2 * r % 2 = 52 + 3 * r by omega]; exact q1.1
      · rw [show 52 + 3 * (2 * r / 2) + 1 - 2 * r % 2 = 52 + 3 * r + 1 by omega]; exact q1.2
      · rw [show 52 + 3 * (2 * r / 2) + 2 = 52 + 3 * r + 2 by omega]; exact q
    · refine hc (2 * r + 1) (by omega) u y d hu hy (by omega) ⟨?_, ?_, ?_⟩
      · rw [show 52 + 3 * ((2 * r + 1) / 2) + (2 * r + 1) % 2 = 52 + 3 * r + 1 by omega]; exact q1.2
      · rw [show 52 + 3 * ((2 * r + 1) / 2) + 1 - (2 * r + 1) % 2 = 52 + 3 * r by omega]; exact q1.1
      · rw [show 52 + 3 * ((2 * r + 1) / 2) + 2 = 52 + 3 * r + 2 by omega]; exact q
  have up1 : ∀ (k : Nat) (t n : Nat), t < 8 → wk f k a t n → e t ≤ n ∧ e t ≤ 63 := by
    intro k
    induction k with
    | zero =>
      rintro t n ht ⟨rfl, rfl⟩
      have := hI.1
      exact ⟨by omega, by omega⟩
    | succ k ih =>
      rintro t n ht ⟨c, m, d, hc8, hd, hw, hr, rfl⟩
      obtain ⟨i1, i2⟩ := ih c m hc8 hw
      have := hrd c t d hc8 ht hd hr
      have := hI.le ht
      exact ⟨by omega, by omega⟩
  have lo : ∀ (k : Nat) (t n : Nat), t < 8 → wk f k a t n → D a t ≤ n := by
    intro k
    induction k with
    | zero =>
      rintro t n ht ⟨rfl, rfl⟩
      rw [hD.1 a ha]
      exact Nat.le_refl _
    | succ k ih =>
      rintro t n ht ⟨c, m, d, hc8, hd, hw, hr, rfl⟩
      have i1 := ih c m hc8 hw
      have := hD.2.1 a c t d ha hc8 ht hd hr
      omega
  rcases hI.2 b hb with q | ⟨q1, k, q2⟩
  · rcases hD.2.2 a b ha hb with p | ⟨p1, k, p2⟩
    · exact .inl ⟨p, q⟩
    · have := up1 k b (D a b) hb p2
      omega
  · have l1 := lo k b (e b) hb q2
    have u1 := up1 k b (e b) hb q2
    rcases hD.2.2 a b ha hb with p | ⟨p1, k', p2⟩
    · unfold NOW at p
      omega
    · have := up1 k' b (D a b) hb p2
      exact .inr ⟨by omega, u1.2⟩
theorem K_far_2 {a : Nat} (x2 : Int32) (ha : a < 8) : ∀ (d i n : Nat) (N : Mem), i + d = 8 → d < n → ∃ N', mK_farOf_2 n (nI a) x2 (nI i) N = mK_farOf_32 fuel x2 1 N' ∧ (∀ r w' i' k, r ≠ 46 → N' r w' i' k = N r w' i' k) ∧ (∀ t, t < i → N' 46 0 0 t = N 46 0 0 t) ∧ ∀ t, i ≤ t → t < 8 → N' 46 0 0 t = if t = a then 0 else -1
  | 0, i, n, N, hi, hn => by
    obtain ⟨n, rfl⟩ : ∃ k, n = k + 1 := ⟨n - 1, by omega⟩
    refine ⟨N, ?_, fun _ _ _ _ _ => rfl, fun _ _ => rfl, fun t h1 h2 => by omega⟩
    show mK_farOf_2b (mK_farOf_2 n) (mK_farOf_32 fuel) (nI a) x2 (nI i) N = _
    unfold mK_farOf_2b
    rw [if_neg (show ¬ nI i < (8 : Int32) from nI_nlt (b := 8) (by omega) (by omega))]
  | d + 1, i, n, N, hi, hn => by
    obtain ⟨n, rfl⟩ : ∃ k, n = k + 1 := ⟨n - 1, by omega⟩
    have st : mK_farOf_2 (n + 1) (nI a) x2 (nI i) N = mK_farOf_2 n (nI a) x2 (nI (i + 1)) (up N 46 0 0 i (if i = a then 0 else -1)) := by
      show mK_farOf_2b (mK_farOf_2 n) (mK_farOf_32 fuel) (nI a) x2 (nI i) N = _
      unfold mK_farOf_2b
      rw [if_pos (show nI i < (8 : Int32) from nI_lt (b := 8) (by omega) (by decide)), ixx_nI (by omega) (by decide), ixx_nI (by omega) (by decide), nI_1]
      by_cases z : i = a
      · rw [if_pos z, if_pos (by rw [z])]
      · rw [if_neg z, if_neg (fun q => z ((nI_eq (by omega) (by omega)).mp q))]
    obtain ⟨N', a1, a2, a3, a4⟩ := K_far_2 x2 ha d (i + 1) n (up N 46 0 0 i (if i = a then 0 else -1)) (by omega) (by omega)
    refine ⟨N', st.trans a1, fun r w' i' k hr => by rw [a2 r w' i' k hr, upR hr], fun t ht => by rw [a3 t (by omega), up_ne (by omega)], fun t h1 h2 => ?_⟩
    by_cases et : t = i
    · subst et
      rw [a3 t (by omega), up_eq]
    · exact a4 t (by omega) h2
/-- how far, by both -/
theorem RW.far {B w : Nat} {M N : Mem} (h : RW B M w (N 41 0 0)) {a b : Nat} (ha : a < 8) (hb : b < 8) : ∃ (x : Nat) (N' : Mem), mW_way w (nI a) (nI b) M = some (nI x, M) ∧ mK_farOf (nI a) (nI b) N = some (if x = 1000000 then -1 else nI x, N') ∧ (x = 1000000 ∨ x ≤ 63) ∧ ∀ r w' i' k, r ≠ 46 → N' r w' i' k = N r w' i' k := by
  obtain ⟨hK, D, hD, hM⟩ := h.r
  obtain ⟨N1, a1, a2, a3, a4⟩ := K_far_2 (nI b) ha 8 0 fuel N (by omega) (by unfold fuel; omega)
  obtain ⟨e, he⟩ : ∃ e : Nat → Nat, e = fun t => if t = a then 0 else 100 := ⟨_, rfl⟩
  have eN : N1 41 0 0 = N 41 0 0 := funext fun k => a2 41 0 0 k (by decide)
  have ea : e a = 0 := by rw [he]; exact if_pos rfl
  have eo : ∀ t, t ≠ a → e t = 100 := fun t ht => by rw [he]; exact if_neg ht
  have hE : EV8 N1 e := by
    intro t ht
    rw [a4 t (by omega) ht]
    by_cases z : t = a
    · rw [if_pos z, z, ea, if_neg (by decide)]
      rfl
    · rw [if_neg z, eo t z, if_pos rfl]
  have hct : 1 ≤ ct8 e := fb_ct_pos.mpr ⟨a, ha, by rw [ea]; rfl⟩
  have hI : Inv8 (N 41 0 0) a e := by
    refine ⟨ea, fun t ht => ?_⟩
    by_cases z : t = a
    · refine .inr ⟨by rw [z, ea]; omega, 0, ?_⟩
      rw [z, ea]
      exact ⟨rfl, rfl⟩
    · exact .inl (eo t z)
  have hsm : sm8 e ≤ 800 := by
    have : ∀ t, e t ≤ 100 := fun t => by
      by_cases z : t = a
      · rw [z, ea]; omega
      · rw [eo t z]; omega
    have t0 := this 0
    have t1 := this 1
    have t2 := this 2
    have t3 := this 3
    have t4 := this 4
    have t5 := this 5
    have t6 := this 6
    have t7 := this 7
    unfold sm8
    omega
  obtain ⟨N2, e2, c1, c2, c3, c4⟩ := far_out hK h.c.b0 h.c.b1 h.c.n1 hb 800 fuel N1 e hsm (by unfold fuel; omega) eN hE hI
  have hv := far_val ha hb hD c2 c4
  have ew : mW_way w (nI a) (nI b) M = some (nI (D a b), M) := by
    unfold mW_way
    have : nI a * 8 + nI b = nI (a * 8 + b) := by rw [show (8 : Int32) = nI 8 from rfl, pk_mul, nI_add]
    rw [this, ixx_nI (by omega) (by decide), hM a b ha hb]
  have ek : mK_farOf (nI a) (nI b) N = some (if e2 b = 100 then -1 else nI (e2 b), N2) := (show mK_farOf (nI a) (nI b) N = _ from a1).trans c1
  refine ⟨D a b, N2, ew, ?_, ?_, fun r w' i' k hr => by rw [c3 r w' i' k hr, a2 r w' i' k hr]⟩
  · rw [ek]
    rcases hv with ⟨v1, v2⟩ | ⟨v1, v2⟩
    · have v1 : D a b = 1000000 := v1
      rw [if_pos v2, if_pos v1]
    · rw [if_neg (by omega), if_neg (by omega), v1]
  · rcases hv with ⟨v1, v2⟩ | ⟨v1, v2⟩
    · exact .inl v1
    · exact .inr (by omega)
