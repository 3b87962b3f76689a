/-! ===== a road more ===== -/
def jn (D : Nat → Nat → Nat) (x y d a b : Nat) : Nat := min (D a b) (min (D a x + d + D y b) (D a y + d + D x b))
theorem wk_cat {f : Row} {k1 a b n1 : Nat} (h : wk f k1 a b n1) : ∀ (k2 c n2 : Nat), wk f k2 b c n2 → wk f (k1 + k2) a c (n1 + n2) := by
  intro k2
  induction k2 with
  | zero =>
    rintro c n2 ⟨rfl, rfl⟩
    exact h
  | succ k ih =>
    rintro c n2 ⟨c', m, d, hc, hd, hw, hr, rfl⟩
    exact ⟨c', n1 + m, d, hc, hd, ih c' m hw, hr, by omega⟩
theorem wk_mono {f f' : Row} (h : ∀ a b d, rd f a b d → rd f' a b d) : ∀ (k a b n : Nat), wk f k a b n → wk f' k a b n := by
  intro k
  induction k with
  | zero => exact fun a b n q => q
  | succ k ih =>
    rintro a b n ⟨c, m, d, hc, hd, hw, hr, rfl⟩
    exact ⟨c, m, d, hc, hd, ih a c m hw, h c b d hr, rfl⟩
theorem Met3.now {f : Row} {D : Nat → Nat → Nat} (hD : Met3 f D) (h16 : cn f 1 ≤ 16) {a b : Nat} (ha : a < 8) (hb : b < 8) : D a b ≤ 1000000 := by
  rcases hD.2.2 a b ha hb with q | ⟨q, _⟩
  · rw [q]
    exact Nat.le_refl _
  · have : 2 ^ cn f 1 ≤ 2 ^ 16 := Nat.pow_le_pow_right (by decide) h16
    omega
theorem Met3.tri {f : Row} {D : Nat → Nat → Nat} (hD : Met3 f D) (h16 : cn f 1 ≤ 16) {a b c : Nat} (ha : a < 8) (hb : b < 8) (hc : c < 8) : D a b ≤ D a c + D c b := by
  have w : ∀ (k v n : Nat), v < 8 → wk f k c v n → D a v ≤ D a c + n := by
    intro k
    induction k with
    | zero =>
      rintro v n hv ⟨rfl, rfl⟩
      exact Nat.le_refl _
    | succ k ih =>
      rintro v n hv ⟨u, m, d, hu, hd, hw, hr, rfl⟩
      have i1 := ih u m hu hw
      have i2 := hD.2.1 a u v d ha hu hv hd hr
      omega
  rcases hD.2.2 c b hc hb with q | ⟨_, k, q⟩
  · have n1 := hD.now h16 ha hb
    have : D c b = 1000000 := q
    omega
  · exact w k b (D c b) hb q
theorem rd_in {f : Row} (hK : KR f) (hb0 : cn f 0 ≤ 8) {u v d : Nat} (hu : u < 8) (hv : v < 8) (h : rd f u v d) : u < cn f 0 ∧ v < cn f 0 := by
  obtain ⟨r, hr, _, q⟩ := h
  obtain ⟨a, b, e, k1, k2, k3, k4, k5, k6, k7, k8⟩ := hK r hr
  rw [k6, k7] at q
  rcases q with ⟨q1, q2⟩ | ⟨q1, q2⟩
  · have w1 := (nI_eq (by omega) (by omega)).mp q1
    have w2 := (nI_eq (by omega) (by omega)).mp q2
    omega
  · have w1 := (nI_eq (by omega) (by omega)).mp q1
    have w2 := (nI_eq (by omega) (by omega)).mp q2
    omega
theorem wk_in {f : Row} (hK : KR f) (hb0 : cn f 0 ≤ 8) : ∀ (k a b n : Nat), b < 8 → wk f k a b n → a = b ∨ (a < cn f 0 ∧ b < cn f 0) := by
  intro k
  induction k with
  | zero =>
    rintro a b n hb ⟨rfl, rfl⟩
    exact .inl rfl
  | succ k ih =>
    rintro a b n hb ⟨c, m, d, hc, hd, hw, hr, rfl⟩
    have r := rd_in hK hb0 hc hb hr
    rcases ih a c m hc hw with q | q
    · exact .inr ⟨by omega, r.2⟩
    · exact .inr ⟨q.1, r.2⟩
theorem jn_out {f : Row} {D : Nat → Nat → Nat} (hK : KR f) (hb0 : cn f 0 ≤ 8) (hD : Met3 f D) (h16 : cn f 1 ≤ 16) {x y d a b : Nat} (hx : x < cn f 0) (hy : y < cn f 0) (ha : a < 8) (hb : b < 8) (h : ¬ (a < cn f 0 ∧ b < cn f 0)) : jn D x y d a b = D a b := by
  have n0 := hD.now h16 ha hb
  have far1 : ∀ u v, u < 8 → v < 8 → u ≠ v → ¬ (u < cn f 0 ∧ v < cn f 0) → D u v = 1000000 := by
    intro u v hu hv hne hn
    rcases hD.2.2 u v hu hv with q | ⟨_, k, q⟩
    · exact q
    · rcases wk_in hK hb0 k u v _ hv q with z | z
      · exact absurd z hne
      · exact absurd z hn
  unfold jn
  by_cases z : a < cn f 0
  · have f1 := far1 y b (by omega) hb (by omega) (by omega)
    have f2 := far1 x b (by omega) hb (by omega) (by omega)
    omega
  · have f1 := far1 a x ha (by omega) (by omega) (by omega)
    have f2 := far1 a y ha (by omega) (by omega) (by omega)
    omega
theorem Met3.join {f f' : Row} {D : Nat → Nat → Nat} (hD : Met3 f D) (h16 : cn f 1 ≤ 16) {x y d : Nat} (hx : x < 8) (hy : y < 8) (d9 : d ≤ 9) (hc : cn f' 1 = cn f 1 + 1) (hold : ∀ a b e, rd f a b e → rd f' a b e) (hnew : ∀ u v e, u < 8 → v < 8 → e < 10 → rd f' u v e → rd f u v e ∨ (e = d ∧ ((u = x ∧ v = y) ∨ (u = y ∧ v = x)))) (hxy : rd f' x y d) (hyx : rd f' y x d) : Met3 f' (jn D x y d) := by
  have x0 := hD.1 x hx
  have y0 := hD.1 y hy
  refine ⟨fun a ha => ?_, fun a u v e ha hu hv he hr => ?_, fun a b ha hb => ?_⟩
  · have := hD.1 a ha
    unfold jn
    omega
  · unfold jn
    rcases hnew u v e hu hv he hr with q | ⟨rfl, ⟨rfl, rfl⟩ | ⟨rfl, rfl⟩⟩
    · have i1 := hD.2.1 a u v e ha hu hv he q
      have i2 := hD.2.1 y u v e hy hu hv he q
      have i3 := hD.2.1 x u v e hx hu hv he q
      omega
    · omega
    · omega
  · have n0 := hD.now h16 ha hb
    have hp : 2 ^ cn f' 1 = 2 ^ cn f 1 * 2 := by rw [hc, Nat.pow_succ]
    have hp1 : 1 ≤ 2 ^ cn f 1 := Nat.one_le_two_pow
    rw [hp]
    by_cases z1 : D a b ≤ D a x + d + D y b ∧ D a b ≤ D a y + d + D x b
    · have e : jn D x y d a b = D a b := by
        unfold jn
        omega
      rw [e]
      rcases hD.2.2 a b ha hb with q | ⟨q, k, q2⟩
      · exact .inl q
      · exact .inr ⟨by omega, k, wk_mono hold k a b _ q2⟩
    · by_cases z2 : D a x + d + D y b ≤ D a y + d + D x b
      · have e : jn D x y d a b = D a x + d + D y b := by
          unfold jn
          omega
        rw [e]
        rcases hD.2.2 a x ha hx with q | ⟨q, k, q2⟩
        · have : D a x = 1000000 := q
          omega
        rcases hD.2.2 y b hy hb with p | ⟨p, k', p2⟩
        · have : D y b = 1000000 := p
          omega
        have w1 : wk f' (k + 1) a y (D a x + d) := ⟨x, D a x, d, hx, by omega, wk_mono hold k a x _ q2, hxy, rfl⟩
        exact .inr ⟨by omega, _, wk_cat w1 k' b _ (wk_mono hold k' y b _ p2)⟩
      · have e : jn D x y d a b = D a y + d + D x b := by
          unfold jn
          omega
        rw [e]
        rcases hD.2.2 a y ha hy with q | ⟨q, k, q2⟩
        · have : D a y = 1000000 := q
          omega
        rcases hD.2.2 x b hx hb with p | ⟨p, k', p2⟩
        · have : D x b = 1000000 := p
          omega
        have w1 : wk f' (k + 1) a x (D a y + d) := ⟨y, D a y, d, hy, by omega, wk_mono hold k a y _ q2, hyx, rfl⟩
        exact .inr ⟨by omega, _, wk_cat w1 k' b _ (wk_mono hold k' x b _ p2)⟩
/-- what the class holds when it has come to i, j -/
def Wj (D : Nat → Nat → Nat) (x y d i j p s : Nat) : Nat := if p < i ∨ (p = i ∧ s < j) then jn D x y d p s else D p s
theorem Wj_or (D : Nat → Nat → Nat) (x y d i j p s : Nat) : Wj D x y d i j p s = D p s ∨ Wj D x y d i j p s = jn D x y d p s := by
  unfold Wj
  split
  · exact .inr rfl
  · exact .inl rfl
theorem W_way_eq {w p s : Nat} (hp : p < 8) (hs : s < 8) (M : Mem) : mW_way w (nI p) (nI s) M = some (M 4 w 0 (p * 8 + s), M) := by
  unfold mW_way
  have : nI p * 8 + nI s = nI (p * 8 + s) := by rw [show (8 : Int32) = nI 8 from rfl, pk_mul, nI_add]
  rw [this, ixx_nI (by omega) (by decide)]
theorem join_15 {f : Row} {D : Nat → Nat → Nat} (hb0 : cn f 0 ≤ 8) (hD : Met3 f D) (h16 : cn f 1 ≤ 16) {w x y d i : Nat} (hx : x < 8) (hy : y < 8) (d9 : d ≤ 9) (hi : i < cn f 0) (r3 : Nat → Int32 → Int32 → Int32 → Int32 → Mem → Option Mem) : ∀ (q j n : Nat) (M : Mem), j + q = cn f 0 → q < n → M 1 w 0 2 = nI (cn f 0) → (∀ p s, p < 8 → s < 8 → M 4 w 0 (p * 8 + s) = nI (Wj D x y d i j p s)) → ∃ M', mW_join_15 r3 n w (nI x) (nI y) (nI d) (nI i) (nI j) M = r3 w (nI x) (nI y) (nI d) (nI (i + 1)) M' ∧ (∀ r w' i' k, ¬ (r = 4 ∧ w' = w) → M' r w' i' k = M r w' i' k) ∧ ∀ p s, p < 8 → s < 8 → M' 4 w 0 (p * 8 + s) = nI (Wj D x y d i (cn f 0) p s)
  | 0, j, n, M, hj, hn, e2, hW => by
    obtain ⟨n, rfl⟩ : ∃ k, n = k + 1 := ⟨n - 1, by omega⟩
    obtain rfl : j = cn f 0 := hj
    refine ⟨M, ?_, fun _ _ _ _ _ => rfl, hW⟩
    show mW_join_15b r3 (mW_join_15 r3 n) w (nI x) (nI y) (nI d) (nI i) (nI (cn f 0)) M = _
    unfold mW_join_15b
    rw [e2, if_neg (nI_nlt (Nat.le_refl _) (by omega)), nI_1]
  | q + 1, j, n, M, hj, hn, e2, hW => by
    obtain ⟨n, rfl⟩ : ∃ k, n = k + 1 := ⟨n - 1, by omega⟩
    have i8 : i < 8 := by omega
    have j8 : j < 8 := by omega
    have st : mW_join_15 r3 (n + 1) w (nI x) (nI y) (nI d) (nI i) (nI j) M = mW_join_15 r3 n w (nI x) (nI y) (nI d) (nI i) (nI (j + 1)) (up M 4 w 0 (i * 8 + j) (nI (jn D x y d i j))) := by
      show mW_join_15b r3 (mW_join_15 r3 n) w (nI x) (nI y) (nI d) (nI i) (nI j) M = _
      unfold mW_join_15b
      have ix : nI i * 8 + nI j = nI (i * 8 + j) := by rw [show (8 : Int32) = nI 8 from rfl, pk_mul, nI_add]
      rw [e2, if_pos (nI_lt (by omega) (by omega))]
      simp only [W_way_eq i8 hx, W_way_eq hy j8, W_way_eq i8 hy, W_way_eq hx j8, Option.bind_some, ix, ixx_nI (show i * 8 + j < 64 by omega) (show 64 < 2 ^ 31 by decide), hW i x i8 hx, hW y j hy j8, hW i y i8 hy, hW x j hx j8, hW i j i8 j8, nI_add, nI_1]
      have n1 := hD.now h16 i8 hx
      have n2 := hD.now h16 hy j8
      have n3 := hD.now h16 i8 hy
      have n4 := hD.now h16 hx j8
      have n5 := hD.now h16 i8 j8
      have t1 := hD.tri h16 i8 j8 hx
      have t2 := hD.tri h16 i8 j8 hy
      have x0 := hD.1 x hx
      have y0 := hD.1 y hy
      have o1 := Wj_or D x y d i j i x
      have o2 := Wj_or D x y d i j y j
      have o3 := Wj_or D x y d i j i y
      have o4 := Wj_or D x y d i j x j
      have o5 : Wj D x y d i j i j = D i j := if_neg (by omega)
      have g1 : min (D i x) (D i y + d) ≤ Wj D x y d i j i x ∧ Wj D x y d i j i x ≤ D i x := by
        unfold jn at o1
        omega
      have g2 : min (D y j) (D x j + d) ≤ Wj D x y d i j y j ∧ Wj D x y d i j y j ≤ D y j := by
        unfold jn at o2
        omega
      have g3 : min (D i y) (D i x + d) ≤ Wj D x y d i j i y ∧ Wj D x y d i j i y ≤ D i y := by
        unfold jn at o3
        omega
      have g4 : min (D x j) (D y j + d) ≤ Wj D x y d i j x j ∧ Wj D x y d i j x j ≤ D x j := by
        unfold jn at o4
        omega
      rw [o5]
      generalize Wj D x y d i j i x = v1 at *
      generalize Wj D x y d i j y j = v2 at *
      generalize Wj D x y d i j i y = v3 at *
      generalize Wj D x y d i j x j = v4 at *
      rw [minI (show v3 + d + v4 < 2 ^ 31 by omega) (show v1 + d + v2 < 2 ^ 31 by omega), minI (show min (v3 + d + v4) (v1 + d + v2) < 2 ^ 31 by omega) (show D i j < 2 ^ 31 by omega)]
      have e : min (min (v3 + d + v4) (v1 + d + v2)) (D i j) = jn D x y d i j := by
        unfold jn
        clear o1 o2 o3 o4 o5
        omega
      rw [e]
    obtain ⟨M', a1, a2, a3⟩ := join_15 hb0 hD h16 hx hy d9 hi r3 q (j + 1) n (up M 4 w 0 (i * 8 + j) (nI (jn D x y d i j))) (by omega) (by omega) (by rw [upR (by decide)]; exact e2) (fun p s hp hs => by
      by_cases z : p = i ∧ s = j
      · obtain ⟨rfl, rfl⟩ := z
        rw [up_eq]
        unfold Wj
        rw [if_pos (by omega)]
      · rw [up_ne (by omega), hW p s hp hs]
        unfold Wj
        by_cases z2 : p < i ∨ (p = i ∧ s < j)
        · rw [if_pos z2, if_pos (by omega)]
        · rw [if_neg z2, if_neg (by omega)])
    exact ⟨M', st.trans a1, fun r w' i' k hk => by rw [a2 r w' i' k hk, up_ne (by omega)], a3⟩
theorem join_3 {f : Row} {D : Nat → Nat → Nat} (hK : KR f) (hb0 : cn f 0 ≤ 8) (hD : Met3 f D) (h16 : cn f 1 ≤ 16) {w x y d : Nat} (hx : x < cn f 0) (hy : y < cn f 0) (d9 : d ≤ 9) : ∀ (q i n : Nat) (M : Mem), i + q = cn f 0 → q < n → M 1 w 0 2 = nI (cn f 0) → (∀ p s, p < 8 → s < 8 → M 4 w 0 (p * 8 + s) = nI (Wj D x y d i 0 p s)) → ∃ M', mW_join_3 n w (nI x) (nI y) (nI d) (nI i) M = some M' ∧ (∀ r w' i' k, ¬ (r = 4 ∧ w' = w) → M' r w' i' k = M r w' i' k) ∧ ∀ p s, p < 8 → s < 8 → M' 4 w 0 (p * 8 + s) = nI (jn D x y d p s)
  | 0, i, n, M, hi, hn, e2, hW => by
    obtain ⟨n, rfl⟩ : ∃ k, n = k + 1 := ⟨n - 1, by omega⟩
    obtain rfl : i = cn f 0 := hi
    refine ⟨M, ?_, fun _ _ _ _ _ => rfl, fun p s hp hs => ?_⟩
    · show mW_join_3b (mW_join_15 (mW_join_3 n) fuel) w (nI x) (nI y) (nI d) (nI (cn f 0)) M = _
      unfold mW_join_3b
      rw [e2, if_neg (nI_nlt (Nat.le_refl _) (by omega))]
    · rw [hW p s hp hs]
      unfold Wj
      by_cases z : p < cn f 0
      · rw [if_pos (.inl z)]
      · rw [if_neg (by omega), jn_out hK hb0 hD h16 hx hy hp hs (by omega)]
  | q + 1, i, n, M, hi, hn, e2, hW => by
    obtain ⟨n, rfl⟩ : ∃ k, n = k + 1 := ⟨n - 1, by omega⟩
    obtain ⟨M1, a1, a2, a3⟩ := join_15 hb0 hD h16 (w := w) (show x < 8 by omega) (show y < 8 by omega) d9 (show i < cn f 0 by omega) (mW_join_3 n) (cn f 0) 0 fuel M (by omega) (by unfold fuel; omega) e2 hW
    obtain ⟨M2, c1, c2, c3⟩ := join_3 hK hb0 hD h16 (w := w) hx hy d9 q (i + 1) n M1 (by omega) (by omega) (by rw [a2 _ _ _ _ (by omega)]; exact e2) (fun p s hp hs => by
      rw [a3 p s hp hs]
      unfold Wj
      by_cases z : p < i + 1
      · rw [if_pos (c := p < i + 1 ∨ (p = i + 1 ∧ s < 0)) (.inl z)]
        by_cases z2 : p < i ∨ (p = i ∧ s < cn f 0)
        · rw [if_pos z2]
        · rw [if_neg z2, jn_out hK hb0 hD h16 hx hy hp hs (by omega)]
      · rw [if_neg (by omega), if_neg (by omega)])
    refine ⟨M2, ?_, fun r w' i' k hk => by rw [c2 r w' i' k hk, a2 r w' i' k hk], c3⟩
    show mW_join_3b (mW_join_15 (mW_join_3 n) fuel) w (nI x) (nI y) (nI d) (nI i) M = _
    unfold mW_join_3b
    rw [e2, if_pos (nI_lt (by omega) (by omega))]
    exact (show mW_join_15 (mW_join_3 n) fuel w (nI x) (nI y) (nI d) (nI i) 0 M = _ from a1).trans c1
theorem s_road {B : Nat} {M N : Mem} (h : Rel B M N) (x1 x2 x3 : Int32) : Sim (Rel (B + 1)) (mF_road x1 x2 x3 M) (mK_road x1 x2 x3 N) := by
  unfold mF_road mK_road
  simp only [F_isTown_eq h.1.c, K_isTown_eq, F_within_eq, K_in_eq, h.1.c.e1, Option.bind_some, bI_ite, bindE]
  refine Sim.ite (fun hp => ?_) (fun _ => Sim.f1 h)
  refine Sim.ite (fun hq => ?_) (fun _ => Sim.f1 h)
  refine Sim.ite (fun _ => Sim.f1 h) (fun hne => ?_)
  refine Sim.ite (fun hr => ?_) (fun _ => Sim.f1 h)
  obtain ⟨x, hx, rfl⟩ := h.1.c.in0 hp
  obtain ⟨y, hy, rfl⟩ := h.1.c.in0 hq
  obtain ⟨d, d1, d9, rfl⟩ := in_lit (a := 1) (b := 9) (by decide) hr (by decide)
  have hxy : x ≠ y := fun z => hne (by rw [z])
  have b0 := h.1.c.b0
  have b1 := h.1.c.b1
  have n1 := h.1.c.n1
  by_cases hf : N 41 0 0 1 = 16
  · rw [if_pos hf, if_neg (by rw [hf]; decide)]
    exact Sim.f4 h
  have hlt : N 41 0 0 1 < 16 := (cnt_lt (b := 16) n1 b1 (by decide)).mpr hf
  rw [if_neg hf, if_pos hlt]
  have R16 : cn (N 41 0 0) 1 < 16 := by
    rw [n1] at hlt
    exact (nI_ltI (b := 16) (by omega) (by decide)).mp hlt
  obtain ⟨hK, D, hD, hM⟩ := h.1.r
  obtain ⟨M1, a1, a2, a3⟩ := join_3 hK b0 hD b1 (w := 0) hx hy d9 (cn (N 41 0 0) 0) 0 fuel M (by omega) (by unfold fuel; omega) (h.1.c.e0.trans h.1.c.n0) (fun p s hp hs => by
    unfold Wj
    rw [if_neg (by omega)]
    exact hM p s hp hs)
  have a1 : mW_join 0 (nI x) (nI y) (nI d) M = some M1 := a1
  have e13 : M1 1 0 0 3 = nI (cn (N 41 0 0) 1) := by rw [a2 _ _ _ _ (by omega), h.1.c.e1]; exact n1
  rw [a1, n1]
  simp only [Option.bind_some, iR0 R16, iR1 R16, iR2 R16, e13, nI_1]
  generalize hR : cn (N 41 0 0) 1 = R at *
  refine Sim.ret (h.world (by omega) ?_ (fun r w i k _ _ _ _ q => by rw [up_ne (by omega), a2 r w i k (by omega)]) (fun r k q => by rw [up_ne (by omega), up_ne (by omega), up_ne (by omega), up_ne (by omega)]))
  rw [up_row, up_row, up_row, up_row]
  generalize hg : upd (upd (upd (upd (N 41 0 0) 1 (nI (R + 1))) (52 + 3 * R) (nI x)) (52 + 3 * R + 1) (nI y)) (52 + 3 * R + 2) (nI d) = g
  have go : ∀ k, k ≠ 1 → ¬ (52 + 3 * R ≤ k ∧ k < 55 + 3 * R) → g k = N 41 0 0 k := fun k q1 q2 => by rw [← hg, pk_un (by omega), pk_un (by omega), pk_un (by omega), pk_un (by omega)]
  have g1 : g 1 = nI (R + 1) := by rw [← hg, pk_un (by omega), pk_un (by omega), pk_un (by omega), pk_us]
  have gx : g (52 + 3 * R) = nI x := by rw [← hg, pk_un (by omega), pk_un (by omega), pk_us]
  have gy : g (52 + 3 * R + 1) = nI y := by rw [← hg, pk_un (by omega), pk_us]
  have gd : g (52 + 3 * R + 2) = nI d := by rw [← hg, pk_us]
  have gn : cn g 1 = R + 1 := cn_nI g1 (by omega)
  have gn0 : cn g 0 = cn (N 41 0 0) 0 := cn_same (go 0 (by omega) (by omega))
  refine h.1.road (by omega) (fun r i k _ _ q => by rw [up_ne (by omega), a2 r 0 i k (by omega)]) (fun k hk => go k (by omega) (by omega)) ?_ ⟨?_, jn D x y d, ?_, fun a b ha hb => by rw [upR (by decide)]; exact a3 a b ha hb⟩
  · refine h.1.c.set (j := 1) (n := R + 1) (by decide) (show R + 1 ≤ 16 by omega) (fun k hk e => ?_) (fun k hk e => go k e (by omega)) up_eq g1
    have this : slC k ≠ 3 := slC_ne (j := 1) hk (by decide) e
    rw [up_ne (fun q => this q.2.2.2), a2 _ _ _ _ (by omega)]
  · intro r hr
    rw [gn] at hr
    rw [gn0]
    by_cases z : r = R
    · subst z
      exact ⟨x, y, d, hx, hy, hxy, d1, d9, gx, gy, gd⟩
    · obtain ⟨a, b, e, k1, k2, k3, k4, k5, k6, k7, k8⟩ := hK r (by omega)
      exact ⟨a, b, e, k1, k2, k3, k4, k5, by rw [go _ (by omega) (by omega)]; exact k6, by rw [go _ (by omega) (by omega)]; exact k7, by rw [go _ (by omega) (by omega)]; exact k8⟩
  · refine hD.join (f' := g) (by omega) (by omega) (by omega) d9 (by rw [gn, hR]) (fun a b e q => ?_) (fun u v e hu hv he q => ?_) ⟨R, by omega, gd, .inl ⟨gx, gy⟩⟩ ⟨R, by omega, gd, .inr ⟨gx, gy⟩⟩
    · obtain ⟨r, hr, q1, q2⟩ := q
      refine ⟨r, by omega, ?_, ?_⟩
      · rw [go _ (by omega) (by omega)]; exact q1
      · rw [go _ (by omega) (by omega), go _ (by omega) (by omega)]; exact q2
    · obtain ⟨r, hr, q1, q2⟩ := q
      rw [gn] at hr
      by_cases z : r = R
      · subst z
        rw [gd] at q1
        rw [gx, gy] at q2
        right
        refine ⟨((nI_eq (by omega) (by omega)).mp q1).symm, ?_⟩
        rcases q2 with ⟨p1, p2⟩ | ⟨p1, p2⟩
        · exact .inl ⟨((nI_eq (by omega) (by omega)).mp p1).symm, ((nI_eq (by omega) (by omega)).mp p2).symm⟩
        · exact .inr ⟨((nI_eq (by omega) (by omega)).mp p2).symm, ((nI_eq (by omega) (by omega)).mp p1).symm⟩
      · left
        rw [go _ (by omega) (by omega)] at q1
        rw [go _ (by omega) (by omega), go _ (by omega) (by omega)] at q2
        exact ⟨r, by omega, q1, q2⟩
