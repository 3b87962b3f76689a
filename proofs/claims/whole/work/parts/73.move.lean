/-! ===== move, hold, shown ===== -/
theorem K_move_160 {t j : Nat} (N : Mem) (v : Nat → Int32) {n : Nat} (hn : j + n ≤ 24) (ht : t < 4) (hv : ∀ k, k < n → N 67 0 0 k = v k) : ∀ (d i m : Nat), i + d = n → d < m → mK_move_160 m (nI t) (nI j) (nI n) (nI i) (fm N 66 0 0 (24 * t + j) i v) = some (nI n, fm N 66 0 0 (24 * t + j) n v) := by
  intro d
  induction d with
  | zero =>
    intro i m hi hm
    obtain ⟨m, rfl⟩ : ∃ k, m = k + 1 := ⟨m - 1, by omega⟩
    show mK_move_160b (mK_move_160 m) (nI t) (nI j) (nI n) (nI i) _ = _
    unfold mK_move_160b
    rw [if_neg (nI_nlt (by omega) (by omega)), show i = n by omega]
  | succ d ih =>
    intro i m hi hm
    obtain ⟨m, rfl⟩ : ∃ k, m = k + 1 := ⟨m - 1, by omega⟩
    show mK_move_160b (mK_move_160 m) (nI t) (nI j) (nI n) (nI i) _ = _
    unfold mK_move_160b
    have i24 : ∀ {F : Nat → Option (Int32 × Mem)}, ixx (((24 * nI t) + nI j) + nI i) 96 F = F (24 * t + j + i) := fun {F} => ixx_e (by show nI 24 * nI t + nI j + nI i = _; rw [pk_mul, nI_add, nI_add]) (by omega) (by decide)
    rw [if_pos (nI_lt (by omega) (by omega)), ixx_nI (by omega) (by decide), i24, nI_1, fm_o (by omega), hv i (by omega)]
    have z := ih (i + 1) m (by omega) (by omega)
    rw [← fm_s] at z
    exact z
theorem K_move_123 {s i0 t j n : Nat} (N : Mem) (hs : s < 4) (ht : t < 4) (h1 : i0 + n ≤ 24) (h2 : j + n ≤ 24) : ∀ (d i m : Nat), i + d = n → d < m → mK_move_123 m (nI s) (nI i0) (nI t) (nI j) (nI n) (nI i) (fm N 67 0 0 0 i (fun k => N 66 0 0 (24 * s + i0 + k))) = some (nI n, fm (fm N 67 0 0 0 n (fun k => N 66 0 0 (24 * s + i0 + k))) 66 0 0 (24 * t + j) n (fun k => N 66 0 0 (24 * s + i0 + k))) := by
  intro d
  induction d with
  | zero =>
    intro i m hi hm
    obtain ⟨m, rfl⟩ : ∃ k, m = k + 1 := ⟨m - 1, by omega⟩
    show mK_move_123b (mK_move_123 m) (mK_move_160 fuel) (nI s) (nI i0) (nI t) (nI j) (nI n) (nI i) _ = _
    unfold mK_move_123b
    rw [if_neg (nI_nlt (by omega) (by omega)), show i = n by omega]
    have z := K_move_160 (t := t) (j := j) (fm N 67 0 0 0 n (fun k => N 66 0 0 (24 * s + i0 + k))) (fun k => N 66 0 0 (24 * s + i0 + k)) h2 ht (fun k hk => by
      have := fm_i (M := N) (r := 67) (w := 0) (i := 0) (a := 0) (v := fun k => N 66 0 0 (24 * s + i0 + k)) hk
      rw [Nat.zero_add] at this
      exact this) n 0 fuel (by omega) (by unfold fuel; omega)
    rw [fm_0] at z
    exact z
  | succ d ih =>
    intro i m hi hm
    obtain ⟨m, rfl⟩ : ∃ k, m = k + 1 := ⟨m - 1, by omega⟩
    show mK_move_123b (mK_move_123 m) (mK_move_160 fuel) (nI s) (nI i0) (nI t) (nI j) (nI n) (nI i) _ = _
    unfold mK_move_123b
    have i24 : ∀ {F : Nat → Option (Int32 × Mem)}, ixx (((24 * nI s) + nI i0) + nI i) 96 F = F (24 * s + i0 + i) := fun {F} => ixx_e (by show nI 24 * nI s + nI i0 + nI i = _; rw [pk_mul, nI_add, nI_add]) (by omega) (by decide)
    rw [if_pos (nI_lt (by omega) (by omega)), i24, ixx_nI (by omega) (by decide), nI_1, fm_o (by omega)]
    have z := ih (i + 1) m (by omega) (by omega)
    rw [← fm_s0] at z
    exact z
theorem S_stand_nn {s l a n : Nat} {M : Mem} (hl : M 19 0 s 1 = nI l) (h : l ≤ 24) (ha : a < 2 ^ 31) (hn : n < 2 ^ 31) : mS_stand s (nI a) (nI n) M = some (bI (a + n ≤ l), M) := by
  unfold mS_stand
  rw [hl, if_neg (nI_pos hn), if_neg (nI_pos ha)]
  by_cases z : n ≤ l
  · rw [if_pos (nI_le z (by omega)), pk_sub z]
    by_cases y : a + n ≤ l
    · rw [if_pos (nI_le (by omega) (by omega)), bI, if_pos y]
    · rw [if_neg (fun q => y (by have := (nI_leI ha (by omega)).mp q; omega)), bI, if_neg y]
  · rw [if_neg (fun q => z ((nI_leI hn (by omega)).mp q)), bI, if_neg (by omega)]
theorem S_stand_neg {s : Nat} {x y : Int32} {M : Mem} (h : y < 0 ∨ x < 0) : mS_stand s x y M = some (0, M) := by
  unfold mS_stand
  by_cases z : y < 0
  · rw [if_pos z]
  · rw [if_neg z, if_pos (h.resolve_left z)]
theorem S_stand_01 (s : Nat) (x y : Int32) (M : Mem) : mS_stand s x y M = some (0, M) ∨ mS_stand s x y M = some (1, M) := by
  unfold mS_stand
  split
  · exact .inl rfl
  · split
    · exact .inl rfl
    · split
      · split
        · exact .inr rfl
        · exact .inl rfl
      · exact .inl rfl
theorem s_move {B : Nat} {M N : Mem} (h : Rel B M N) (x1 x2 x3 x4 x5 : Int32) : Sim (Rel (B + 1)) (mF_move x1 x2 x3 x4 x5 M) (mK_move x1 x2 x3 x4 x5 N) := by
  unfold mF_move mK_move mK_moveb
  simp only [F_isSheet_eq, K_isSheet_eq, S_missing_eq, Option.bind_some, bI_ite, bindE]
  refine Sim.ite (fun hp => ?_) (fun _ => Sim.f1 h)
  refine Sim.ite (fun hq => ?_) (fun _ => Sim.f1 h)
  obtain ⟨s, hs, rfl⟩ := in_lit0 (b := 3) (by decide) hp
  obtain ⟨t, ht, rfl⟩ := in_lit0 (b := 3) (by decide) hq
  have hs4 : s < 4 := by omega
  have ht4 : t < 4 := by omega
  obtain ⟨q1, q2, ⟨ls, hls, els⟩, q4⟩ := h.2.2.2.2.1 s hs4
  obtain ⟨r1, r2, ⟨lt, hlt, elt⟩, r4⟩ := h.2.2.2.2.1 t ht4
  simp only [ixx_nI hs4 (show (4 : Nat) < 2 ^ 31 by decide), ixx_nI ht4 (show (4 : Nat) < 2 ^ 31 by decide), q1, r1]
  refine Sim.ite (fun _ => Sim.f2 h) (fun _ => ?_)
  refine Sim.ite (fun _ => Sim.f2 h) (fun _ => ?_)
  refine Sim.ite (fun _ => ?_) (fun _ => Sim.f5 h)
  by_cases z5 : x5 < 0
  · rw [if_pos z5, S_stand_neg (.inl z5)]
    exact Sim.f1 h
  rw [if_neg z5]
  by_cases z2 : x2 < 0
  · rw [if_pos z2, S_stand_neg (.inr z2)]
    exact Sim.f1 h
  rw [if_neg z2]
  by_cases z4 : x4 < 0
  · rw [if_pos z4]
    have e := S_stand_neg (s := t) (x := x4) (y := x5) (M := M) (.inr z4)
    rcases S_stand_01 s x2 x5 M with q | q
    · rw [q]
      exact Sim.f1 h
    · rw [q]
      simp only [Option.bind_some, e, if_neg (show ¬ (1 : Int32) = 0 by decide), if_true]
      exact Sim.f1 h
  rw [if_neg z4]
  obtain ⟨n, hn, rfl⟩ := nI_of z5
  obtain ⟨a, ha, rfl⟩ := nI_of z2
  obtain ⟨b, hb, rfl⟩ := nI_of z4
  rw [S_stand_nn (q2.trans els) (by omega) ha hn]
  simp only [Option.bind_some, S_stand_nn (r2.trans elt) (show lt ≤ 24 by omega) hb hn, bI_ite]
  have c1 : lg_cmp ((nI a).toInt64 + (nI n).toInt64) ((N 65 0 0 s).toInt64) ≤ 0 ↔ a + n ≤ ls := by
    rw [lg_cmp_le, els, nI_l ha, nI_l hn, nI_l (by omega), lN_add, pk_lLE (by omega) (by omega)]
  have c2 : lg_cmp ((nI b).toInt64 + (nI n).toInt64) ((N 65 0 0 t).toInt64) ≤ 0 ↔ b + n ≤ lt := by
    rw [lg_cmp_le, elt, nI_l hb, nI_l hn, nI_l (by omega), lN_add, pk_lLE (by omega) (by omega)]
  by_cases w1 : ¬ a + n ≤ ls
  · rw [if_neg w1, if_neg (fun q => w1 (c1.mp q))]
    exact Sim.f1 h
  have w1 : a + n ≤ ls := Classical.not_not.mp w1
  rw [if_pos w1, if_pos (c1.mpr w1)]
  by_cases w2 : ¬ b + n ≤ lt
  · rw [if_neg w2, if_neg (fun q => w2 (c2.mp q))]
    exact Sim.f1 h
  have w2 : b + n ≤ lt := Classical.not_not.mp w2
  rw [if_pos w2, if_pos (c2.mpr w2), nI_clamp hn, nI_clamp ha, nI_clamp hb, if_neg (by
    intro q
    rcases q with q | q | q | q | q
    · exact nI_pos ha q
    · exact nI_pos hb q
    · exact nI_pos hn q
    · omega
    · omega)]
  have z := K_move_123 (s := s) (i0 := a) (t := t) (j := b) (n := n) N hs4 ht4 (by omega) (by omega) n 0 fuel (by omega) (by unfold fuel; omega)
  rw [fm_0] at z
  rw [show mK_move_123 fuel (nI s) (nI a) (nI t) (nI b) (nI n) 0 N = _ from z]
  have ho : ∀ r k, r ≠ 66 → r ≠ 67 → fm (fm N 67 0 0 0 n (fun k => N 66 0 0 (24 * s + a + k))) 66 0 0 (24 * t + b) n (fun k => N 66 0 0 (24 * s + a + k)) r 0 0 k = N r 0 0 k := fun r k y1 y2 => by rw [fm_o (by omega), fm_o (by omega)]
  have hc : ∀ r w i k, r ≠ 20 → cpM M 20 0 s a 0 t b n r w i k = M r w i k := fun r w i k y => if_neg (by omega)
  refine Sim.ret (h.rest (h.2.2.sheets (fun r w i k _ y => hc r w i k y) (fun r k _ _ y1 y2 => ho r k y1 y2) fun s' hs' => ?_) (fun r w i k y => hc r w i k (by omega)) (fun r k q => ho r k (by omega) (by omega)))
  obtain ⟨y1, y2, y3, y4⟩ := h.2.2.2.2.1 s' hs'
  rw [hc _ _ _ _ (by omega), hc _ _ _ _ (by omega), ho _ _ (by omega) (by omega), ho _ _ (by omega) (by omega)]
  refine ⟨y1, y2, y3, fun j hj => ?_⟩
  by_cases e : s' = t ∧ b ≤ j ∧ j < b + n
  · obtain ⟨rfl, e1, e2⟩ := e
    obtain ⟨k, rfl⟩ : ∃ k, j = b + k := ⟨j - b, by omega⟩
    have f1 : cpM M 20 0 s a 0 s' b n 20 0 s' (b + k) = M 20 0 s (a + k) := by
      unfold cpM
      rw [if_pos (by omega), show b + k - b = k by omega]
    rw [f1, show 24 * s' + (b + k) = 24 * s' + b + k by omega, fm_i (by omega), q4 (a + k) (by omega), show 24 * s + (a + k) = 24 * s + a + k by omega]
  · have f1 : cpM M 20 0 s a 0 t b n 20 0 s' j = M 20 0 s' j := if_neg (by omega)
    rw [f1, fm_o (by omega), fm_o (by omega)]
    exact y4 j hj
/-! hold -/
theorem hold_loop {B : Nat} {M N : Mem} (h : Rel B M N) {t : Nat} (ht : t < cn (N 41 0 0) 0) (less : Int32) : ∀ (d i n m : Nat) (wall : Int32), i + d = 401 → d < n → d < m → Sim (Rel (B + 1)) (mF_hold_78 n 0 t less wall (nI i) M) (mK_hold_62 m (nI t) wall less (nI i) N) := by
  have b0 := h.1.c.b0
  have t8 : t < 8 := by omega
  have q1 := (h.1.t t ht).1
  intro d
  induction d with
  | zero =>
    intro i n m wall hi hn hm
    obtain ⟨n, rfl⟩ : ∃ k, n = k + 1 := ⟨n - 1, by omega⟩
    obtain ⟨m, rfl⟩ : ∃ k, m = k + 1 := ⟨m - 1, by omega⟩
    show Sim _ (mF_hold_78b (mF_hold_78 n) 0 t less wall (nI i) M) (mK_hold_62b (mK_hold_62 m) (nI t) wall less (nI i) N)
    unfold mF_hold_78b mK_hold_62b
    have e : ¬ nI i ≤ (400 : Int32) := nI_ge (a := 400) (by omega) (by omega)
    rw [if_neg e, if_neg e, bindE, bindE]
    exact Sim.f2 h
  | succ d ih =>
    intro i n m wall hi hn hm
    obtain ⟨n, rfl⟩ : ∃ k, n = k + 1 := ⟨n - 1, by omega⟩
    obtain ⟨m, rfl⟩ : ∃ k, m = k + 1 := ⟨m - 1, by omega⟩
    show Sim _ (mF_hold_78b (mF_hold_78 n) 0 t less wall (nI i) M) (mK_hold_62b (mK_hold_62 m) (nI t) wall less (nI i) N)
    unfold mF_hold_78b mK_hold_62b
    have e : nI i ≤ (400 : Int32) := nI_le (b := 400) (by omega) (by omega)
    rw [if_pos e, if_pos e, q1 2 (by decide), q1 3 (by decide), nI_1]
    simp only [K_ofTown_3 t8, K_ofTown_2 t8, Option.bind_some]
    have ih' := fun w => ih (i + 1) n m w (by omega) (by omega) (by omega)
    by_cases z : wall - less + N 41 0 0 (20 + 4 * t + 3) / 10 ≤ N 41 0 0 (20 + 4 * t + 2)
    · rw [if_neg (Int32.not_lt.mpr z), if_pos z]
      exact Sim.ite (fun _ => Sim.ret h.up1) (fun _ => ih' _)
    · rw [if_pos (Int32.not_le.mp z), if_neg z]
      exact Sim.ite (fun _ => Sim.ret h.up1) (fun _ => ih' _)
theorem s_hold {B : Nat} {M N : Mem} (h : Rel B M N) (x1 x2 x3 x4 : Int32) : Sim (Rel (B + 1)) (mF_hold x1 x2 x3 x4 M) (mK_hold x1 x2 x3 x4 N) := by
  unfold mF_hold mK_hold mF_holdb mK_holdb
  simp only [F_isTown_eq h.1.c, K_isTown_eq, F_isCompany_eq h.1.c, K_isCompany_eq, F_within_eq, K_in_eq, Option.bind_some, bI_ite, bindE]
  refine Sim.ite (fun hp => ?_) (fun _ => Sim.f1 h)
  refine Sim.ite (fun hq => ?_) (fun _ => Sim.f1 h)
  refine Sim.ite (fun hr => ?_) (fun _ => Sim.f1 h)
  obtain ⟨t, ht, rfl⟩ := h.1.c.in0 hp
  obtain ⟨c, hc, rfl⟩ := h.1.c.in2 hq
  have b0 := h.1.c.b0
  have b2 := h.1.c.b2
  have t8 : t < 8 := by omega
  rw [ixx_nI t8 (by decide), ixx_nI (show c < 5 by omega) (by decide), (h.1.t t ht).1 2 (by decide), (h.1.f c hc).1, K_ofTown_2 t8]
  simp only [Option.bind_some, K_manySo_0 h.1, Int32.add_zero]
  have l := fun less wall => hold_loop h ht less 400 1 fuel fuel wall (by omega) (by unfold fuel; omega) (by unfold fuel; omega)
  exact Sim.ite (fun _ => l _ _) (fun _ => l _ _)
/-! marks that are shown -/
def shw (g : Nat → Int32) (x : Int32) : Nat → Nat → Int32
  | 0, _ => 0
  | d + 1, i => if g i = x then 1 else shw g x d (i + 1)
theorem shw_s (g : Nat → Int32) (x : Int32) (d i : Nat) : shw g x (d + 1) i = if g i = x then 1 else shw g x d (i + 1) := rfl
theorem shw_cong {g g' : Nat → Int32} (x : Int32) : ∀ (d i : Nat), (∀ k, i ≤ k → k < i + d → g k = g' k) → shw g x d i = shw g' x d i
  | 0, _, _ => rfl
  | d + 1, i, h => by rw [shw_s, shw_s, h i (by omega) (by omega), shw_cong x d (i + 1) (fun k h1 h2 => h k (by omega) (by omega))]
theorem shw_01 (g : Nat → Int32) (x : Int32) : ∀ (d i : Nat), shw g x d i = 0 ∨ shw g x d i = 1
  | 0, _ => .inl rfl
  | d + 1, i => by
    rw [shw_s]
    split
    · exact .inr rfl
    · exact shw_01 g x d (i + 1)
theorem C_shows_2 (w c : Nat) (x : Int32) (M : Mem) {n : Nat} (hn : n ≤ 12) : ∀ (d i m : Nat), i + d = n → d < m → mC_shows_2 m w c x (nI n) (nI i) M = some (shw (M 7 w c) x d i, M) := by
  intro d
  induction d with
  | zero =>
    intro i m hi hm
    obtain ⟨m, rfl⟩ : ∃ k, m = k + 1 := ⟨m - 1, by omega⟩
    show mC_shows_2b (mC_shows_2 m) w c x (nI n) (nI i) M = _
    unfold mC_shows_2b
    rw [if_neg (nI_nlt (by omega) (by omega))]
    rfl
  | succ d ih =>
    intro i m hi hm
    obtain ⟨m, rfl⟩ : ∃ k, m = k + 1 := ⟨m - 1, by omega⟩
    show mC_shows_2b (mC_shows_2 m) w c x (nI n) (nI i) M = _
    unfold mC_shows_2b
    rw [if_pos (nI_lt (by omega) (by omega)), if_pos (show nI i < (12 : Int32) from nI_lt (b := 12) (by omega) (by omega)), ixx_nI (by omega) (by decide), nI_1, ih _ _ (by omega) (by omega), shw_s]
    split <;> rfl
theorem C_shows_eq (w c : Nat) (x : Int32) (M : Mem) {n : Nat} (hn : n ≤ 12) : mC_shows w c x (nI n) M = some (shw (M 7 w c) x n 0, M) := C_shows_2 w c x M hn n 0 fuel (by omega) (by unfold fuel; omega)
theorem K_own_m {t i : Nat} {N : Mem} (ht : t < 5) (hi : i < 14) : mK_own (nI t) (10 + nI i) N = some (N 41 0 0 (100 + 24 * t + 10 + i), N) := by
  have := K_own_n (N := N) ht (show 10 + i < 24 by omega)
  rw [← nI_add, show 100 + 24 * t + (10 + i) = 100 + 24 * t + 10 + i by omega] at this
  exact this
theorem K_isShown_2 {c : Nat} (hc : c < 5) (x : Int32) (N : Mem) {n : Nat} (hn : n ≤ 12) (h9 : N 41 0 0 (100 + 24 * c + 9) = nI n) : ∀ (d i m : Nat), i + d = n → d < m → mK_isShown_2 m (nI c) x (nI i) N = some (shw (fun k => N 41 0 0 (100 + 24 * c + 10 + k)) x d i, N) := by
  intro d
  induction d with
  | zero =>
    intro i m hi hm
    obtain ⟨m, rfl⟩ : ∃ k, m = k + 1 := ⟨m - 1, by omega⟩
    show mK_isShown_2b (mK_isShown_2 m) (nI c) x (nI i) N = _
    unfold mK_isShown_2b
    rw [K_own_9 hc, h9]
    simp only [Option.bind_some]
    rw [if_neg (nI_nlt (by omega) (by omega))]
    rfl
  | succ d ih =>
    intro i m hi hm
    obtain ⟨m, rfl⟩ : ∃ k, m = k + 1 := ⟨m - 1, by omega⟩
    show mK_isShown_2b (mK_isShown_2 m) (nI c) x (nI i) N = _
    unfold mK_isShown_2b
    rw [K_own_9 hc, h9]
    simp only [Option.bind_some]
    rw [if_pos (nI_lt (by omega) (by omega)), K_own_m hc (by omega)]
    simp only [Option.bind_some]
    rw [nI_1, ih _ _ (by omega) (by omega), shw_s]
    split <;> rfl
theorem K_isShown_eq {c : Nat} (hc : c < 5) (x : Int32) (N : Mem) {n : Nat} (hn : n ≤ 12) (h9 : N 41 0 0 (100 + 24 * c + 9) = nI n) : mK_isShown (nI c) x N = some (shw (fun k => N 41 0 0 (100 + 24 * c + 10 + k)) x n 0, N) := K_isShown_2 hc x N hn h9 n 0 fuel (by omega) (by unfold fuel; omega)
/-- whether a mark stands in the latest muster of a company -/
def shC (f : Row) (x : Int32) (c : Nat) : Int32 := shw (fun k => f (100 + 24 * c + 10 + k)) x (cn f (100 + 24 * c + 9)) 0
theorem RW.shows {B : Nat} {M : Mem} {w : Nat} {f : Row} (h : RW B M w f) {c : Nat} (hc : c < cn f 2) (x : Int32) : mC_shows w c x (M 6 w c 11) M = some (shC f x c, M) := by
  obtain ⟨⟨a0, a1, a2, a3, a8, a9, a11⟩, h2, h3, h4, h5, h6, ⟨n, hn, en⟩, h8⟩ := h.p c hc
  have e : cn f (100 + 24 * c + 9) = n := cn_nI en (by omega)
  rw [a11, en, C_shows_eq w c x M (by omega)]
  unfold shC
  rw [e, shw_cong x n 0 (fun k _ hk => h4 k (by omega))]
theorem RW.isShown {B : Nat} {M N : Mem} {w : Nat} (h : RW B M w (N 41 0 0)) {c : Nat} (hc : c < cn (N 41 0 0) 2) (x : Int32) : mK_isShown (nI c) x N = some (shC (N 41 0 0) x c, N) := by
  obtain ⟨_, h2, h3, h4, h5, h6, ⟨n, hn, en⟩, h8⟩ := h.p c hc
  have b2 := h.c.b2
  have e : cn (N 41 0 0) (100 + 24 * c + 9) = n := cn_nI en (by omega)
  rw [K_isShown_eq (by omega) x N (by omega) en]
  unfold shC
  rw [e]
def shN (f : Row) (x : Int32) : Nat → Nat → Int32 → Int32
  | 0, _, a => a
  | d + 1, i, a => shN f x d (i + 1) (if shC f x i = 0 then a else a + 1)
theorem shN_s (f : Row) (x : Int32) (d i : Nat) (a : Int32) : shN f x (d + 1) i a = shN f x d (i + 1) (if shC f x i = 0 then a else a + 1) := rfl
theorem W_showing_4 {B : Nat} {M : Mem} {w : Nat} {f : Row} (h : RW B M w f) (x : Int32) : ∀ (d i n : Nat) (a : Int32), i + d = cn f 2 → d < n → mW_showing_4 n w x a (nI i) M = some (shN f x d i a, M) := by
  have b2 := h.c.b2
  intro d
  induction d with
  | zero =>
    intro i n a hi hn
    obtain ⟨m, rfl⟩ : ∃ m, n = m + 1 := ⟨n - 1, by omega⟩
    show mW_showing_4b (mW_showing_4 m) w x a (nI i) M = _
    unfold mW_showing_4b
    rw [h.c.e2, h.c.n2, if_neg (nI_nlt (by omega) (by omega))]
    rfl
  | succ d ih =>
    intro i n a hi hn
    obtain ⟨m, rfl⟩ : ∃ m, n = m + 1 := ⟨n - 1, by omega⟩
    show mW_showing_4b (mW_showing_4 m) w x a (nI i) M = _
    unfold mW_showing_4b
    rw [h.c.e2, h.c.n2, if_pos (nI_lt (by omega) (by omega)), ixx_nI (by omega) (by decide), ixx_nI (by omega) (by decide), h.shows (by omega) x]
    simp only [Option.bind_some]
    rw [nI_1, ih _ _ _ (by omega) (by omega), ih _ _ _ (by omega) (by omega), shN_s, Int32.add_zero]
    split <;> rfl
theorem W_showing_eq {B : Nat} {M : Mem} {w : Nat} {f : Row} (h : RW B M w f) (x : Int32) : mW_showing w x M = some (shN f x (cn f 2) 0 0, M) := by
  have b2 := h.c.b2
  exact W_showing_4 h x (cn f 2) 0 fuel 0 (by omega) (by unfold fuel; omega)
theorem K_shown_26 {B : Nat} {M N : Mem} {w : Nat} (h : RW B M w (N 41 0 0)) (r : Int32 → Int32 → Mem → Option (Int32 × Mem)) (l x : Int32) : ∀ (d i n : Nat) (a : Int32), i + d = cn (N 41 0 0) 2 → d < n → mK_shown_26 r n l x a (nI i) N = if shN (N 41 0 0) x d i a < 2 then r l (x + 1) N else if l = 0 then some (x, N) else r (l + (-1)) (x + 1) N := by
  have b2 := h.c.b2
  intro d
  induction d with
  | zero =>
    intro i n a hi hn
    obtain ⟨m, rfl⟩ : ∃ m, n = m + 1 := ⟨n - 1, by omega⟩
    show mK_shown_26b r (mK_shown_26 r m) l x a (nI i) N = _
    unfold mK_shown_26b
    rw [h.c.n2, if_neg (nI_nlt (by omega) (by omega))]
    rfl
  | succ d ih =>
    intro i n a hi hn
    obtain ⟨m, rfl⟩ : ∃ m, n = m + 1 := ⟨n - 1, by omega⟩
    show mK_shown_26b r (mK_shown_26 r m) l x a (nI i) N = _
    unfold mK_shown_26b
    rw [h.c.n2, if_pos (nI_lt (by omega) (by omega)), h.isShown (by omega) x]
    simp only [Option.bind_some]
    rw [nI_1, ih _ _ _ (by omega) (by omega), ih _ _ _ (by omega) (by omega), shN_s, Int32.add_zero]
    by_cases z : shC (N 41 0 0) x i = 0
    · rw [if_pos z, if_pos z]
    · rw [if_neg z, if_neg z]
theorem shown_loop {B : Nat} {M N : Mem} (h : Rel B M N) : ∀ (d i n m : Nat) (l : Int32), i + d = 100 → d < n → d < m → Sim (Rel (B + 1)) (mF_shown_14 n l (nI i) M) (mK_shown_14 m l (nI i) N) := by
  intro d
  induction d with
  | zero =>
    intro i n m l hi hn hm
    obtain ⟨n, rfl⟩ : ∃ k, n = k + 1 := ⟨n - 1, by omega⟩
    obtain ⟨m, rfl⟩ : ∃ k, m = k + 1 := ⟨m - 1, by omega⟩
    show Sim _ (mF_shown_14b (mF_shown_14 n) l (nI i) M) (mK_shown_14b (mK_shown_26 (mK_shown_14 m) fuel) l (nI i) N)
    unfold mF_shown_14b mK_shown_14b
    have e : ¬ nI i < (100 : Int32) := nI_nlt (b := 100) (by omega) (by omega)
    rw [if_neg e, if_neg e, bindE, bindE]
    exact Sim.f2 h
  | succ d ih =>
    intro i n m l hi hn hm
    obtain ⟨n, rfl⟩ : ∃ k, n = k + 1 := ⟨n - 1, by omega⟩
    obtain ⟨m, rfl⟩ : ∃ k, m = k + 1 := ⟨m - 1, by omega⟩
    show Sim _ (mF_shown_14b (mF_shown_14 n) l (nI i) M) (mK_shown_14b (mK_shown_26 (mK_shown_14 m) fuel) l (nI i) N)
    unfold mF_shown_14b mK_shown_14b
    have b2 := h.1.c.b2
    have e : nI i < (100 : Int32) := nI_lt (b := 100) (by omega) (by omega)
    have z := K_shown_26 h.1 (mK_shown_14 m) l (nI i) (cn (N 41 0 0) 2) 0 fuel 0 (by omega) (by unfold fuel; omega)
    rw [if_pos e, if_pos e, W_showing_eq h.1, show mK_shown_26 (mK_shown_14 m) fuel l (nI i) 0 0 N = _ from z, nI_1]
    simp only [Option.bind_some]
    have ih' := fun l => ih (i + 1) n m l (by omega) (by omega) (by omega)
    refine Sim.ite (fun _ => ih' _) (fun _ => ?_)
    exact Sim.ite (fun _ => Sim.ret h.up1) (fun _ => ih' _)
theorem s_shown {B : Nat} {M N : Mem} (h : Rel B M N) (x1 : Int32) : Sim (Rel (B + 1)) (mF_shown x1 M) (mK_shown x1 N) := by
  unfold mF_shown mK_shown mF_shownb mK_shownb
  rw [bindE, bindE]
  exact Sim.ite (fun _ => Sim.f1 h) (fun _ => shown_loop h 100 0 fuel fuel x1 (by omega) (by unfold fuel; omega) (by unfold fuel; omega))
