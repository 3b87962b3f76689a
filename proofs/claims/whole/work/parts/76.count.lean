/-! ===== clash, count, parts ===== -/
theorem clash_in {B : Nat} {M N : Mem} (h : Rel B M N) {P : Mem → Mem → Prop} (hP : P M N) (r r' : Int32 → Int32 → Int32 → Mem → Option (Int32 × Mem)) (x2 : Int32) {a : Nat} (ha : a < cn (N 41 0 0) 5) (hr : ∀ l, Sim P (r x2 l (nI (a + 1)) M) (r' x2 l (nI (a + 1)) N)) : ∀ (d j n m : Nat) (l : Int32), j + d = cn (N 41 0 0) 5 → d < n → d < m → Sim P (mF_clash_42 r n x2 l (nI a) (nI j) M) (mK_clash_41 r' m x2 l (nI a) (nI j) N) := by
  have b5 := h.1.c.b5
  intro d
  induction d with
  | zero =>
    intro j n m l hj hn hm
    obtain ⟨n, rfl⟩ : ∃ k, n = k + 1 := ⟨n - 1, by omega⟩
    obtain ⟨m, rfl⟩ : ∃ k, m = k + 1 := ⟨m - 1, by omega⟩
    show Sim _ (mF_clash_42b r (mF_clash_42 r n) x2 l (nI a) (nI j) M) (mK_clash_41b r' (mK_clash_41 r' m) x2 l (nI a) (nI j) N)
    unfold mF_clash_42b mK_clash_41b
    rw [h.1.c.e5, h.1.c.n5, if_neg (nI_nlt (by omega) (by omega)), if_neg (nI_nlt (by omega) (by omega)), nI_1]
    exact hr l
  | succ d ih =>
    intro j n m l hj hn hm
    obtain ⟨n, rfl⟩ : ∃ k, n = k + 1 := ⟨n - 1, by omega⟩
    obtain ⟨m, rfl⟩ : ∃ k, m = k + 1 := ⟨m - 1, by omega⟩
    show Sim _ (mF_clash_42b r (mF_clash_42 r n) x2 l (nI a) (nI j) M) (mK_clash_41b r' (mK_clash_41 r' m) x2 l (nI a) (nI j) N)
    unfold mF_clash_42b mK_clash_41b
    have ih' := fun l => ih (j + 1) n m l (by omega) (by omega) (by omega)
    rw [h.1.c.e5, h.1.c.n5, if_pos (nI_lt (by omega) (by omega)), if_pos (nI_lt (by omega) (by omega)), ixx_nI (by omega) (by decide), ixx_nI (by omega) (by decide), W_clashDay_eq h.1 ha (by omega), K_clashOf_eq h.1 ha (by omega), nI_1]
    simp only [Option.bind_some]
    refine Sim.ite (fun _ => ih' _) (fun _ => ?_)
    refine Sim.ite (fun _ => ?_) (fun _ => ih' _)
    refine Sim.ite (fun _ => Sim.ret hP) (fun _ => ?_)
    exact Sim.ite (fun _ => Sim.ret hP) (fun _ => Sim.ret hP)
theorem clash_out {B : Nat} {M N : Mem} (h : Rel B M N) (x2 : Int32) : ∀ (d a n m : Nat) (l : Int32), a + d = cn (N 41 0 0) 5 → d < n → d < m → Sim (Rel (B + 1)) (mF_clash_24 n x2 l (nI a) M) (mK_clash_24 m x2 l (nI a) N) := by
  have b5 := h.1.c.b5
  intro d
  induction d with
  | zero =>
    intro a n m l hj hn hm
    obtain ⟨n, rfl⟩ : ∃ k, n = k + 1 := ⟨n - 1, by omega⟩
    obtain ⟨m, rfl⟩ : ∃ k, m = k + 1 := ⟨m - 1, by omega⟩
    show Sim _ (mF_clash_24b (mF_clash_42 (mF_clash_24 n) fuel) x2 l (nI a) M) (mK_clash_24b (mK_clash_41 (mK_clash_24 m) fuel) x2 l (nI a) N)
    unfold mF_clash_24b mK_clash_24b
    rw [h.1.c.e5, h.1.c.n5, if_neg (nI_nlt (by omega) (by omega)), if_neg (nI_nlt (by omega) (by omega)), bindE, bindE]
    exact Sim.f2 h
  | succ d ih =>
    intro a n m l hj hn hm
    obtain ⟨n, rfl⟩ : ∃ k, n = k + 1 := ⟨n - 1, by omega⟩
    obtain ⟨m, rfl⟩ : ∃ k, m = k + 1 := ⟨m - 1, by omega⟩
    show Sim _ (mF_clash_24b (mF_clash_42 (mF_clash_24 n) fuel) x2 l (nI a) M) (mK_clash_24b (mK_clash_41 (mK_clash_24 m) fuel) x2 l (nI a) N)
    unfold mF_clash_24b mK_clash_24b
    rw [h.1.c.e5, h.1.c.n5, if_pos (nI_lt (by omega) (by omega)), if_pos (nI_lt (by omega) (by omega)), nI_1]
    exact clash_in h h.up1 _ _ x2 (by omega) (fun l => ih (a + 1) n m l (by omega) (by omega) (by omega)) d (a + 1) fuel fuel l (by omega) (by unfold fuel; omega) (by unfold fuel; omega)
theorem s_clash {B : Nat} {M N : Mem} (h : Rel B M N) (x1 x2 : Int32) : Sim (Rel (B + 1)) (mF_clash x1 x2 M) (mK_clash x1 x2 N) := by
  have b5 := h.1.c.b5
  unfold mF_clash mK_clash mF_clashb mK_clashb
  simp only [F_within_eq, K_in_eq, Option.bind_some, bI_ite, bindE]
  refine Sim.ite (fun _ => Sim.f1 h) (fun _ => ?_)
  exact Sim.ite (fun _ => clash_out h x2 (cn (N 41 0 0) 5) 0 fuel fuel x1 (by omega) (by unfold fuel; omega) (by unfold fuel; omega)) (fun _ => Sim.f1 h)
/-! how many clash -/
def clN (f : Row) (a : Nat) : Nat → Nat → Int32 → Int32
  | 0, _, x => x
  | d + 1, j, x => clN f a d (j + 1) (if clD f a j < 0 then x else x + 1)
theorem clN_s (f : Row) (a d j : Nat) (x : Int32) : clN f a (d + 1) j x = clN f a d (j + 1) (if clD f a j < 0 then x else x + 1) := rfl
def clA (f : Row) : Nat → Nat → Int32 → Int32
  | 0, _, x => x
  | d + 1, a, x => clA f d (a + 1) (clN f a d (a + 1) x)
theorem clA_s (f : Row) (d a : Nat) (x : Int32) : clA f (d + 1) a x = clA f d (a + 1) (clN f a d (a + 1) x) := rfl
theorem W_clashes_16 {B : Nat} {M : Mem} {w : Nat} {f : Row} (h : RW B M w f) (r : Nat → Int32 → Int32 → Mem → Option (Int32 × Mem)) {a : Nat} (ha : a < cn f 5) : ∀ (d i n : Nat) (x : Int32), i + d = cn f 5 → d < n → mW_clashes_16 r n w x (nI a) (nI i) M = r w (clN f a d i x) (nI (a + 1)) M := by
  have b5 := h.c.b5
  intro d
  induction d with
  | zero =>
    intro i n x hi hn
    obtain ⟨m, rfl⟩ : ∃ m, n = m + 1 := ⟨n - 1, by omega⟩
    show mW_clashes_16b r (mW_clashes_16 r m) w x (nI a) (nI i) M = _
    unfold mW_clashes_16b
    rw [h.c.e5, h.c.n5, if_neg (nI_nlt (by omega) (by omega)), nI_1]
    rfl
  | succ d ih =>
    intro i n x hi hn
    obtain ⟨m, rfl⟩ : ∃ m, n = m + 1 := ⟨n - 1, by omega⟩
    show mW_clashes_16b r (mW_clashes_16 r m) w x (nI a) (nI i) M = _
    unfold mW_clashes_16b
    rw [h.c.e5, h.c.n5, if_pos (nI_lt (by omega) (by omega)), ixx_nI (by omega) (by decide), ixx_nI (by omega) (by decide), W_clashDay_eq h ha (by omega), Int32.add_zero, nI_1]
    simp only [Option.bind_some]
    rw [ih _ _ _ (by omega) (by omega), ih _ _ _ (by omega) (by omega), clN_s]
    by_cases z : clD f a i < 0
    · rw [if_pos z, if_pos z]
    · rw [if_neg z, if_neg z]
theorem W_clashes_4 {B : Nat} {M : Mem} {w : Nat} {f : Row} (h : RW B M w f) : ∀ (d i n : Nat) (x : Int32), i + d = cn f 5 → d < n → mW_clashes_4 n w x (nI i) M = some (clA f d i x, M) := by
  have b5 := h.c.b5
  intro d
  induction d with
  | zero =>
    intro i n x hi hn
    obtain ⟨m, rfl⟩ : ∃ m, n = m + 1 := ⟨n - 1, by omega⟩
    show mW_clashes_4b (mW_clashes_16 (mW_clashes_4 m) fuel) w x (nI i) M = _
    unfold mW_clashes_4b
    rw [h.c.e5, h.c.n5, if_neg (nI_nlt (by omega) (by omega))]
    rfl
  | succ d ih =>
    intro i n x hi hn
    obtain ⟨m, rfl⟩ : ∃ m, n = m + 1 := ⟨n - 1, by omega⟩
    show mW_clashes_4b (mW_clashes_16 (mW_clashes_4 m) fuel) w x (nI i) M = _
    unfold mW_clashes_4b
    rw [h.c.e5, h.c.n5, if_pos (nI_lt (by omega) (by omega)), nI_1, W_clashes_16 h _ (by omega) d (i + 1) fuel x (by omega) (by unfold fuel; omega), ih _ _ _ (by omega) (by omega)]
    rfl
theorem K_count_202 {B : Nat} {M N : Mem} {w : Nat} (h : RW B M w (N 41 0 0)) (r : Int32 → Int32 → Mem → Option (Int32 × Mem)) {a : Nat} (ha : a < cn (N 41 0 0) 5) : ∀ (d i n : Nat) (x : Int32), i + d = cn (N 41 0 0) 5 → d < n → mK_count_202 r n x (nI a) (nI i) N = r (clN (N 41 0 0) a d i x) (nI (a + 1)) N := by
  have b5 := h.c.b5
  intro d
  induction d with
  | zero =>
    intro i n x hi hn
    obtain ⟨m, rfl⟩ : ∃ m, n = m + 1 := ⟨n - 1, by omega⟩
    show mK_count_202b r (mK_count_202 r m) x (nI a) (nI i) N = _
    unfold mK_count_202b
    rw [h.c.n5, if_neg (nI_nlt (by omega) (by omega)), nI_1]
    rfl
  | succ d ih =>
    intro i n x hi hn
    obtain ⟨m, rfl⟩ : ∃ m, n = m + 1 := ⟨n - 1, by omega⟩
    show mK_count_202b r (mK_count_202 r m) x (nI a) (nI i) N = _
    unfold mK_count_202b
    rw [h.c.n5, if_pos (nI_lt (by omega) (by omega)), K_clashOf_eq h ha (by omega), Int32.add_zero, nI_1]
    simp only [Option.bind_some]
    rw [ih _ _ _ (by omega) (by omega), ih _ _ _ (by omega) (by omega), clN_s]
    by_cases z : clD (N 41 0 0) a i < 0
    · rw [if_pos z, if_pos z]
    · rw [if_neg z, if_neg z]
theorem K_count_187 {B : Nat} {M N : Mem} {w : Nat} (h : RW B M w (N 41 0 0)) : ∀ (d i n : Nat) (x : Int32), i + d = cn (N 41 0 0) 5 → d < n → mK_count_187 n x (nI i) N = some (clA (N 41 0 0) d i x, N) := by
  have b5 := h.c.b5
  intro d
  induction d with
  | zero =>
    intro i n x hi hn
    obtain ⟨m, rfl⟩ : ∃ m, n = m + 1 := ⟨n - 1, by omega⟩
    show mK_count_187b (mK_count_202 (mK_count_187 m) fuel) x (nI i) N = _
    unfold mK_count_187b
    rw [h.c.n5, if_neg (nI_nlt (by omega) (by omega))]
    rfl
  | succ d ih =>
    intro i n x hi hn
    obtain ⟨m, rfl⟩ : ∃ m, n = m + 1 := ⟨n - 1, by omega⟩
    show mK_count_187b (mK_count_202 (mK_count_187 m) fuel) x (nI i) N = _
    unfold mK_count_187b
    rw [h.c.n5, if_pos (nI_lt (by omega) (by omega)), nI_1, K_count_202 h _ (by omega) d (i + 1) fuel x (by omega) (by unfold fuel; omega), ih _ _ _ (by omega) (by omega)]
    rfl
/-! sums -/
def smF (g : Nat → Int32) : Nat → Nat → Int32 → Int32
  | 0, _, x => x
  | d + 1, i, x => smF g d (i + 1) (x + g i)
theorem smF_s (g : Nat → Int32) (d i : Nat) (x : Int32) : smF g (d + 1) i x = smF g d (i + 1) (x + g i) := rfl
theorem smF_nI {g : Nat → Int32} {q : Nat → Nat} : ∀ (d i a : Nat), (∀ k, i ≤ k → k < i + d → g k = nI (q k)) → smF g d i (nI a) = nI (a + fb_sm (fun k => q (i + k)) d)
  | 0, _, a, _ => rfl
  | d + 1, i, a, h => by
    rw [smF_s, h i (by omega) (by omega), nI_add, smF_nI d (i + 1) (a + q i) (fun k h1 h2 => h k (by omega) (by omega))]
    congr 1
    have key : ∀ d, fb_sm (fun k => q (i + k)) (d + 1) = q i + fb_sm (fun k => q (i + 1 + k)) d := by
      intro d
      induction d with
      | zero =>
        show 0 + q (i + 0) = q i + 0
        simp
      | succ d ih =>
        rw [fb_sm_succ, ih, fb_sm_succ]
        have e : i + (d + 1) = i + 1 + d := by omega
        rw [e]
        omega
    rw [key]
    omega
theorem W_allOwed_4 {B : Nat} {M : Mem} {w : Nat} {f : Row} (h : RW B M w f) : ∀ (d i n : Nat) (x : Int32), i + d = cn f 5 → d < n → mW_allOwed_4 n w x (nI i) M = some (smF (fun b => f (1056 + 14 * b + 8)) d i x, M) := by
  have b5 := h.c.b5
  intro d
  induction d with
  | zero =>
    intro i n x hi hn
    obtain ⟨m, rfl⟩ : ∃ m, n = m + 1 := ⟨n - 1, by omega⟩
    show mW_allOwed_4b (mW_allOwed_4 m) w x (nI i) M = _
    unfold mW_allOwed_4b
    rw [h.c.e5, h.c.n5, if_neg (nI_nlt (by omega) (by omega))]
    rfl
  | succ d ih =>
    intro i n x hi hn
    obtain ⟨m, rfl⟩ : ∃ m, n = m + 1 := ⟨n - 1, by omega⟩
    show mW_allOwed_4b (mW_allOwed_4 m) w x (nI i) M = _
    unfold mW_allOwed_4b
    rw [h.c.e5, h.c.n5, if_pos (nI_lt (by omega) (by omega)), ixx_nI (by omega) (by decide), (h.b i (by omega)).1 8 (by decide), nI_1, ih _ _ _ (by omega) (by omega)]
    rfl
theorem K_count_247 {B : Nat} {M N : Mem} {w : Nat} (h : RW B M w (N 41 0 0)) : ∀ (d i n : Nat) (x : Int32), i + d = cn (N 41 0 0) 5 → d < n → mK_count_247 n x (nI i) N = some (smF (fun b => N 41 0 0 (1056 + 14 * b + 8)) d i x, N) := by
  have b5 := h.c.b5
  intro d
  induction d with
  | zero =>
    intro i n x hi hn
    obtain ⟨m, rfl⟩ : ∃ m, n = m + 1 := ⟨n - 1, by omega⟩
    show mK_count_247b (mK_count_247 m) x (nI i) N = _
    unfold mK_count_247b
    rw [h.c.n5, if_neg (nI_nlt (by omega) (by omega))]
    rfl
  | succ d ih =>
    intro i n x hi hn
    obtain ⟨m, rfl⟩ : ∃ m, n = m + 1 := ⟨n - 1, by omega⟩
    show mK_count_247b (mK_count_247 m) x (nI i) N = _
    unfold mK_count_247b
    rw [h.c.n5, if_pos (nI_lt (by omega) (by omega)), K_bond_8 (show i < 24 by omega)]
    simp only [Option.bind_some]
    rw [nI_1, ih _ _ _ (by omega) (by omega)]
    rfl
theorem W_allCoin_32 {B : Nat} {M : Mem} {w : Nat} {f : Row} (h : RW B M w f) : ∀ (d i n : Nat) (x : Int32), i + d = cn f 2 → d < n → mW_allCoin_32 n w x (nI i) M = some (smF (fun c => f (100 + 24 * c)) d i x, M) := by
  have b2 := h.c.b2
  intro d
  induction d with
  | zero =>
    intro i n x hi hn
    obtain ⟨m, rfl⟩ : ∃ m, n = m + 1 := ⟨n - 1, by omega⟩
    show mW_allCoin_32b (mW_allCoin_32 m) w x (nI i) M = _
    unfold mW_allCoin_32b
    rw [h.c.e2, h.c.n2, if_neg (nI_nlt (by omega) (by omega))]
    rfl
  | succ d ih =>
    intro i n x hi hn
    obtain ⟨m, rfl⟩ : ∃ m, n = m + 1 := ⟨n - 1, by omega⟩
    show mW_allCoin_32b (mW_allCoin_32 m) w x (nI i) M = _
    unfold mW_allCoin_32b
    rw [h.c.e2, h.c.n2, if_pos (nI_lt (by omega) (by omega)), ixx_nI (by omega) (by decide), (h.p i (by omega)).1.1, nI_1, ih _ _ _ (by omega) (by omega)]
    rfl
theorem W_allCoin_4 {B : Nat} {M : Mem} {w : Nat} {f : Row} (h : RW B M w f) : ∀ (d i n : Nat) (x : Int32), i + d = cn f 0 → d < n → mW_allCoin_4 n w x (nI i) M = some (smF (fun c => f (100 + 24 * c)) (cn f 2) 0 (smF (fun t => f (20 + 4 * t)) d i x), M) := by
  have b0 := h.c.b0
  have b2 := h.c.b2
  intro d
  induction d with
  | zero =>
    intro i n x hi hn
    obtain ⟨m, rfl⟩ : ∃ m, n = m + 1 := ⟨n - 1, by omega⟩
    show mW_allCoin_4b (mW_allCoin_4 m) (mW_allCoin_32 fuel) w x (nI i) M = _
    unfold mW_allCoin_4b
    rw [h.c.e0, h.c.n0, if_neg (nI_nlt (by omega) (by omega))]
    exact W_allCoin_32 h (cn f 2) 0 fuel x (by omega) (by unfold fuel; omega)
  | succ d ih =>
    intro i n x hi hn
    obtain ⟨m, rfl⟩ : ∃ m, n = m + 1 := ⟨n - 1, by omega⟩
    show mW_allCoin_4b (mW_allCoin_4 m) (mW_allCoin_32 fuel) w x (nI i) M = _
    unfold mW_allCoin_4b
    rw [h.c.e0, h.c.n0, if_pos (nI_lt (by omega) (by omega)), ixx_nI (by omega) (by decide), show M 3 w i 0 = f (20 + 4 * i) from (h.t i (by omega)).1 0 (by decide), nI_1, ih _ _ _ (by omega) (by omega)]
    rfl
theorem K_count_121 {B : Nat} {M N : Mem} {w : Nat} (h : RW B M w (N 41 0 0)) : ∀ (d i n : Nat) (x : Int32), i + d = cn (N 41 0 0) 2 → d < n → mK_count_121 n x (nI i) N = some (smF (fun c => N 41 0 0 (100 + 24 * c)) d i x, N) := by
  have b2 := h.c.b2
  intro d
  induction d with
  | zero =>
    intro i n x hi hn
    obtain ⟨m, rfl⟩ : ∃ m, n = m + 1 := ⟨n - 1, by omega⟩
    show mK_count_121b (mK_count_121 m) x (nI i) N = _
    unfold mK_count_121b
    rw [h.c.n2, if_neg (nI_nlt (by omega) (by omega))]
    rfl
  | succ d ih =>
    intro i n x hi hn
    obtain ⟨m, rfl⟩ : ∃ m, n = m + 1 := ⟨n - 1, by omega⟩
    show mK_count_121b (mK_count_121 m) x (nI i) N = _
    unfold mK_count_121b
    rw [h.c.n2, if_pos (nI_lt (by omega) (by omega)), K_own_0 (show i < 5 by omega)]
    simp only [Option.bind_some]
    rw [nI_1, ih _ _ _ (by omega) (by omega)]
    rfl
theorem K_count_94 {B : Nat} {M N : Mem} {w : Nat} (h : RW B M w (N 41 0 0)) : ∀ (d i n : Nat) (x : Int32), i + d = cn (N 41 0 0) 0 → d < n → mK_count_94 n x (nI i) N = some (smF (fun c => N 41 0 0 (100 + 24 * c)) (cn (N 41 0 0) 2) 0 (smF (fun t => N 41 0 0 (20 + 4 * t)) d i x), N) := by
  have b0 := h.c.b0
  have b2 := h.c.b2
  intro d
  induction d with
  | zero =>
    intro i n x hi hn
    obtain ⟨m, rfl⟩ : ∃ m, n = m + 1 := ⟨n - 1, by omega⟩
    show mK_count_94b (mK_count_94 m) (mK_count_121 fuel) x (nI i) N = _
    unfold mK_count_94b
    rw [h.c.n0, if_neg (nI_nlt (by omega) (by omega))]
    exact K_count_121 h (cn (N 41 0 0) 2) 0 fuel x (by omega) (by unfold fuel; omega)
  | succ d ih =>
    intro i n x hi hn
    obtain ⟨m, rfl⟩ : ∃ m, n = m + 1 := ⟨n - 1, by omega⟩
    show mK_count_94b (mK_count_94 m) (mK_count_121 fuel) x (nI i) N = _
    unfold mK_count_94b
    rw [h.c.n0, if_pos (nI_lt (by omega) (by omega)), K_ofTown_0 (show i < 8 by omega)]
    simp only [Option.bind_some]
    rw [nI_1, ih _ _ _ (by omega) (by omega)]
    rfl
theorem W_allFit_4 {B : Nat} {M : Mem} {w : Nat} {f : Row} (h : RW B M w f) : ∀ (d i n : Nat) (x : Int32), i + d = cn f 2 → d < n → mW_allFit_4 n w x (nI i) M = some (smF (fun c => nI (cL f c 0)) d i x, M) := by
  have b2 := h.c.b2
  intro d
  induction d with
  | zero =>
    intro i n x hi hn
    obtain ⟨m, rfl⟩ : ∃ m, n = m + 1 := ⟨n - 1, by omega⟩
    show mW_allFit_4b (mW_allFit_4 m) w x (nI i) M = _
    unfold mW_allFit_4b
    rw [h.c.e2, h.c.n2, if_neg (nI_nlt (by omega) (by omega))]
    rfl
  | succ d ih =>
    intro i n x hi hn
    obtain ⟨m, rfl⟩ : ∃ m, n = m + 1 := ⟨n - 1, by omega⟩
    show mW_allFit_4b (mW_allFit_4 m) w x (nI i) M = _
    unfold mW_allFit_4b
    rw [h.c.e2, h.c.n2, if_pos (nI_lt (by omega) (by omega)), ixx_nI (by omega) (by decide), (h.f i (by omega)).1, nI_1, ih _ _ _ (by omega) (by omega)]
    rfl
theorem K_count_150 {B : Nat} {M N : Mem} {w : Nat} (h : RW B M w (N 41 0 0)) : ∀ (d i n : Nat), i + d = cn (N 41 0 0) 3 → d < n → mK_count_150 n (nI (fb_ct (fun l => decide (N 41 0 0 (220 + 5 * l + 3) = 0)) i)) (nI i) N = some (nI (fb_ct (fun l => decide (N 41 0 0 (220 + 5 * l + 3) = 0)) (cn (N 41 0 0) 3)), N) := by
  have b3 := h.c.b3
  intro d
  induction d with
  | zero =>
    intro i n  hi hn
    obtain ⟨m, rfl⟩ : ∃ m, n = m + 1 := ⟨n - 1, by omega⟩
    show mK_count_150b (mK_count_150 m) _ (nI i) N = _
    unfold mK_count_150b
    rw [h.c.n3, if_neg (nI_nlt (by omega) (by omega)), show i = cn (N 41 0 0) 3 by omega]
  | succ d ih =>
    intro i n  hi hn
    obtain ⟨m, rfl⟩ : ∃ m, n = m + 1 := ⟨n - 1, by omega⟩
    show mK_count_150b (mK_count_150 m) _ (nI i) N = _
    unfold mK_count_150b
    have ih' := ih (i + 1) m (by omega) (by omega)
    rw [fb_ct_succ] at ih'
    rw [h.c.n3, if_pos (nI_lt (by omega) (by omega)), K_its_3 (show i < 40 by omega)]
    simp only [Option.bind_some, nI_1, Int32.add_zero]
    by_cases z : N 41 0 0 (220 + 5 * i + 3) = 0
    · rw [if_pos z]
      simp only [z, decide_true, if_true] at ih'
      exact ih'
    · rw [if_neg z]
      simp only [z, decide_false, Bool.false_eq_true, if_false, Nat.add_zero] at ih'
      exact ih'
/-- all that are fit, by companies and by lances -/
theorem fit_all {f : Row} {C : Nat} (hC : C < 2 ^ 31) : ∀ (n : Nat), (∀ l, l < n → isN (f (220 + 5 * l)) C) → fb_sm (fun c => fb_ct (fun l => decide (f (220 + 5 * l) = nI c ∧ f (220 + 5 * l + 3) = nI 0)) n) C = fb_ct (fun l => decide (f (220 + 5 * l + 3) = 0)) n
  | 0, _ => by
    rw [show (fun c => fb_ct (fun l => decide (f (220 + 5 * l) = nI c ∧ f (220 + 5 * l + 3) = nI 0)) 0) = fun _ => 0 from rfl, fb_sm_const]
    rfl
  | n + 1, h => by
    have ih := fit_all hC n (fun l hl => h l (by omega))
    simp only [fb_ct_succ]
    rw [fb_sm_add, ih]
    congr 1
    obtain ⟨c0, hc0, e0⟩ := h n (by omega)
    have one : ∀ (P : Prop) [Decidable P] (C : Nat), c0 < C → fb_sm (fun c => if c = c0 then (if P then 1 else 0) else 0) C = if P then 1 else 0 := by
      intro P _ C hC'
      have := fb_sm_upd (fun _ => 0) (if P then 1 else 0) hC'
      rw [fb_sm_const] at this
      omega
    rw [← one (decide (f (220 + 5 * n + 3) = 0) = true) C hc0]
    refine fb_sm_cong fun c hc => ?_
    rw [e0]
    by_cases e : c = c0
    · subst e
      rw [if_pos rfl]
      simp only [true_and]
      rfl
    · have : ¬ nI c0 = nI c := fun q => e ((nI_eq (by omega) (by omega)).mp q).symm
      rw [if_neg e]
      simp [this]
theorem s_count {B : Nat} {M N : Mem} (h : Rel B M N) (x1 : Int32) : Sim (Rel (B + 1)) (mF_count x1 M) (mK_count x1 N) := by
  have b0 := h.1.c.b0
  have b2 := h.1.c.b2
  have b3 := h.1.c.b3
  have b5 := h.1.c.b5
  unfold mF_count mK_count mK_countb mW_allCoin mW_allCoinb mW_allFit mW_allFitb mW_clashes mW_clashesb mW_allOwed mW_allOwedb
  have t1 := W_allCoin_4 h.1 (cn (N 41 0 0) 0) 0 fuel 0 (by omega) (by unfold fuel; omega)
  have t2 := K_count_94 h.1 (cn (N 41 0 0) 0) 0 fuel 0 (by omega) (by unfold fuel; omega)
  have t3 := W_allFit_4 h.1 (cn (N 41 0 0) 2) 0 fuel 0 (by omega) (by unfold fuel; omega)
  have t4 := K_count_150 h.1 (cn (N 41 0 0) 3) 0 fuel (by omega) (by unfold fuel; omega)
  have t5 := W_clashes_4 h.1 (cn (N 41 0 0) 5) 0 fuel 0 (by omega) (by unfold fuel; omega)
  have t6 := K_count_187 h.1 (cn (N 41 0 0) 5) 0 fuel 0 (by omega) (by unfold fuel; omega)
  have t7 := W_allOwed_4 h.1 (cn (N 41 0 0) 5) 0 fuel 0 (by omega) (by unfold fuel; omega)
  have t8 := K_count_247 h.1 (cn (N 41 0 0) 5) 0 fuel 0 (by omega) (by unfold fuel; omega)
  have e3 : smF (fun c => nI (cL (N 41 0 0) c 0)) (cn (N 41 0 0) 2) 0 0 = nI (fb_ct (fun l => decide (N 41 0 0 (220 + 5 * l + 3) = 0)) (cn (N 41 0 0) 3)) := by
    have z := smF_nI (g := fun c => nI (cL (N 41 0 0) c 0)) (q := fun c => cL (N 41 0 0) c 0) (cn (N 41 0 0) 2) 0 0 (fun _ _ _ => rfl)
    simp only [Nat.zero_add] at z
    refine Eq.trans z (congrArg nI ?_)
    exact fit_all (by omega) (cn (N 41 0 0) 3) (fun l hl => (h.1.l l hl).2.1)
  rw [e3] at t3
  rw [h.1.c.e0, h.1.c.e1, h.1.c.e2, h.1.c.e3, h.1.c.e4, h.1.c.e5, h.1.c.e6, h.1.c.e7, h.1.c.e8, h.2.2.2.2.2.1, bindE, bindE, bindE, bindE, bindE, bindE]
  have ix : ∀ {x : Int32} {k : Nat} {F : Nat → Option (Int32 × Mem)}, x = nI k → k < 1502 → ixx x 1502 F = F k := fun e hk => ixx_e e hk (by decide)
  refine Sim.ite (fun e => by rw [ix (k := 0) e (by decide)]; exact Sim.ret h.up1) (fun _ => ?_)
  refine Sim.ite (fun e => by rw [ix (k := 1) e (by decide)]; exact Sim.ret h.up1) (fun _ => ?_)
  refine Sim.ite (fun e => by rw [ix (k := 2) e (by decide)]; exact Sim.ret h.up1) (fun _ => ?_)
  refine Sim.ite (fun e => by rw [ix (k := 3) e (by decide)]; exact Sim.ret h.up1) (fun _ => ?_)
  refine Sim.ite (fun e => by rw [ix (k := 4) e (by decide)]; exact Sim.ret h.up1) (fun _ => ?_)
  refine Sim.ite (fun e => by rw [ix (k := 5) e (by decide)]; exact Sim.ret h.up1) (fun _ => ?_)
  refine Sim.ite (fun e => by rw [ix (k := 6) e (by decide)]; exact Sim.ret h.up1) (fun _ => ?_)
  refine Sim.ite (fun e => by rw [ix (k := 7) e (by decide)]; exact Sim.ret h.up1) (fun _ => ?_)
  refine Sim.ite (fun _ => Sim.ret h.up1) (fun _ => ?_)
  refine Sim.ite (fun _ => Sim.ret h.up1) (fun _ => ?_)
  refine Sim.ite (fun _ => by rw [show mW_allCoin_4 fuel 0 0 0 M = _ from t1, show mK_count_94 fuel 0 0 N = _ from t2]; exact Sim.ret h.up1) (fun _ => ?_)
  refine Sim.ite (fun _ => by rw [show mW_allFit_4 fuel 0 0 0 M = _ from t3, show mK_count_150 fuel 0 0 N = _ from t4]; exact Sim.ret h.up1) (fun _ => ?_)
  refine Sim.ite (fun _ => by rw [show mW_clashes_4 fuel 0 0 0 M = _ from t5, show mK_count_187 fuel 0 0 N = _ from t6]; exact Sim.ret h.up1) (fun _ => ?_)
  exact Sim.ite (fun _ => by rw [show mW_allOwed_4 fuel 0 0 0 M = _ from t7, show mK_count_247 fuel 0 0 N = _ from t8]; exact Sim.ret h.up1) (fun _ => Sim.f1 h)
