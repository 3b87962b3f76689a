/-! ===== ransom; whom one serves, what is in force, how many are so ===== -/
theorem s_ransom {B : Nat} {M N : Mem} (h : Rel B M N) (x1 x2 : Int32) (hB : B < 10000) : Sim (Rel (B + 1)) (mF_ransom x1 x2 M) (mK_ransom x1 x2 N) := by
  unfold mF_ransom mK_ransom
  simp only [F_isLance_eq h.1.c, K_isLance_eq, F_within_eq, K_in_eq, W_bondsFull_eq h.1.c, Option.bind_some, bI_ite, bindE]
  refine Sim.ite (fun hp => ?_) (fun _ => Sim.f1 h)
  refine Sim.ite (fun hq => ?_) (fun _ => Sim.f1 h)
  obtain ⟨l, hl, rfl⟩ := h.1.c.in3 hp
  have b3 := h.1.c.b3
  have b2 := h.1.c.b2
  have b0 := h.1.c.b0
  have b5 := h.1.c.b5
  have l4 : l < 40 := by omega
  obtain ⟨q1, ⟨c, hc, ec⟩, q3, q4⟩ := h.1.l l hl
  have c5 : c < 5 := by omega
  have q10 : M 10 0 l 0 = nI c := (q1 0 (by decide)).trans ec
  have a0 : M 6 0 c 0 = N 41 0 0 (100 + 24 * c) := (h.1.p c hc).1.1
  rw [ixx_nI l4 (by decide), q1 4 (by decide), q10, ixx_nI c5 (by decide), a0]
  simp only [K_its_4 l4, K_its_0 l4, ec, K_own_0 c5, K_isFull_eq, Option.bind_some, bI_ite]
  refine Sim.ite (fun _ => Sim.f3 h) (fun hm => ?_)
  refine Sim.ite (fun _ => Sim.f2 h) (fun hz => ?_)
  refine Sim.ite (fun _ => Sim.f4 h) (fun hf => ?_)
  have hb24 := h.1.c.free5 hf
  obtain ⟨t, ht, et⟩ := q4.resolve_left (fun q => hm (by rw [q]; decide))
  have t8 : t < 8 := by omega
  rw [et]
  simp only [W_coin_eq t8 c5, K_gives_eq t8 c5, Option.bind_some]
  obtain ⟨n, _, n2, rfl⟩ := in_lit (a := 0) (b := 9999) (by decide) hq (by decide)
  have hg := h.1.gives (B' := B + 1) (s := -nI n) (by omega) ht hc (by
    rw [Int32.sub_eq_add_neg, Int32.neg_neg]
    exact ((h.1.t t ht).2.1.add (m := 9999) ⟨n, by omega, rfl⟩).mono (by omega))
  rw [← up_row, ← up_row] at hg
  have go : ∀ a v j, 220 ≤ j ∨ j < 9 → up (up N 41 0 0 (20 + 4 * t) a) 41 0 0 (100 + 24 * c) v 41 0 0 j = N 41 0 0 j := fun a v j hj => by rw [up_ne (by omega), up_ne (by omega)]
  have mo : ∀ a v r w i k, ¬ (w = 0 ∧ (r = 3 ∨ (r = 6 ∧ k = 0))) → up (up M 3 0 t 0 a) 6 0 c 0 v r w i k = M r w i k := fun a v r w i k hj => by rw [up_ne (by omega), up_ne (by omega)]
  have no : ∀ a v r w i k, ¬ (r = 41) → up (up N 41 0 0 (20 + 4 * t) a) 41 0 0 (100 + 24 * c) v r w i k = N r w i k := fun a v r w i k hj => by rw [up_ne (by omega), up_ne (by omega)]
  have go' := go (N 41 0 0 (20 + 4 * t) - -nI n) (N 41 0 0 (100 + 24 * c) + -nI n)
  have mo' := mo (M 3 0 t 0 - -nI n) (M 6 0 c 0 + -nI n)
  have no' := no (N 41 0 0 (20 + 4 * t) - -nI n) (N 41 0 0 (100 + 24 * c) + -nI n)
  generalize hMg : up (up M 3 0 t 0 (M 3 0 t 0 - -nI n)) 6 0 c 0 (M 6 0 c 0 + -nI n) = Mg at *
  generalize hNg : up (up N 41 0 0 (20 + 4 * t) (N 41 0 0 (20 + 4 * t) - -nI n)) 41 0 0 (100 + 24 * c) (N 41 0 0 (100 + 24 * c) + -nI n) = Ng at *
  have d5 : cn (Ng 41 0 0) 5 = cn (N 41 0 0) 5 := cn_same (go' 5 (by omega))
  have d3 : cn (Ng 41 0 0) 3 = cn (N 41 0 0) 3 := cn_same (go' 3 (by omega))
  have d2 : cn (Ng 41 0 0) 2 = cn (N 41 0 0) 2 := cn_same (go' 2 (by omega))
  have g10 : Mg 10 0 l 0 = nI c := (mo' _ _ _ _ (by omega)).trans q10
  have g14 : Mg 10 0 l 4 = nI t := (mo' _ _ _ _ (by omega)).trans ((q1 4 (by decide)).trans et)
  have g13 : Mg 10 0 l 3 = N 41 0 0 (220 + 5 * l + 3) := (mo' _ _ _ _ (by omega)).trans (q1 3 (by decide))
  rw [g10, F_newBond_eq (hg.c.e5.trans hg.c.n5) (by omega)]
  simp only [K_turns_eq l4, iL4 l4, Option.bind_some]
  rw [K_newBond_eq (b := cn (Ng 41 0 0) 5) (by rw [up_ne (by omega), up_ne (by omega)]; exact hg.c.n5) (by omega)]
  generalize hT : cn (Ng 41 0 0) 5 = T at *
  have w4 : bB Mg T 5 (nI c) (nI n) 10 0 l 4 = nI t := by rw [bB_o (by omega), g14]
  rw [w4]
  generalize hX : up (up (up (bB Mg T 5 (nI c) (nI n)) 15 0 T 5 (nI t)) 15 0 T 7 (nI l)) 10 0 l 4 (-1) = X
  have xo : ∀ r w i k, ¬ (w = 0 ∧ ((r = 15 ∧ i = T) ∨ (r = 10 ∧ i = l ∧ k = 4))) → X r w i k = Mg r w i k := fun r w i k z => by rw [← hX, up_ne (by omega), up_ne (by omega), up_ne (by omega), bB_o (by omega)]
  have x4 : X 10 0 l 4 = -1 := by rw [← hX, up_eq]
  have xb : ∀ k, k < 12 → X 15 0 T k = vB 5 (nI c) (-1) (-1) (nI n) (nI t) (-1) (nI l) k := by
    intro k hk
    rw [← hX, upR (by decide)]
    revert k
    refine k12 ?_ ?_ ?_ ?_ ?_ ?_ ?_ ?_ ?_ ?_ ?_ ?_ <;> simp [up, bB, vB]
  rw [W_become_eq c5 ((xo _ _ _ _ (by omega)).trans g10), xo 10 0 l 3 (by omega), g13]
  simp only [Option.bind_some]
  rw [lB_o (by omega), xo 1 0 0 12 (by omega), hg.c.e5, hg.c.n5, hT, nI_1]
  refine Sim.ret (h.world (by omega) ?_ (fun r w i k _ _ _ _ q => by rw [up_ne (by omega), lB_o (by omega), xo _ _ _ _ (by omega), mo' _ _ _ _ (by omega)]) (fun r k q => by rw [kB_o (by omega), up_ne (by omega), up_ne (by omega), no' _ _ _ _ (by omega)]))
  have r2 := hg.become (B' := B + 1) (l := l) (c := c) (x := 0) (by omega) (by omega) c5 ((go' _ (by omega)).trans ec) ⟨0, by decide, rfl⟩
  rw [go' _ (by omega)] at r2
  have r3 := r2.holder (B' := B + 1) (l := l) (x := -1) (by omega) (by rw [cn_same (pk_un (by omega))]; omega) (.inl rfl)
  rw [← up_row, ← up_row] at r3
  have e5 : cn (up (up Ng 41 0 0 (220 + 5 * l + 3) 0) 41 0 0 (220 + 5 * l + 4) (-1) 41 0 0) 5 = T := by
    rw [← hT]
    exact cn_same (by rw [up_ne (by omega), up_ne (by omega)])
  have e2 : cn (up (up Ng 41 0 0 (220 + 5 * l + 3) 0) 41 0 0 (220 + 5 * l + 4) (-1) 41 0 0) 2 = cn (N 41 0 0) 2 := by
    rw [← d2]
    exact cn_same (by rw [up_ne (by omega), up_ne (by omega)])
  refine r3.addBond (x1 := 5) (x2 := nI c) (x3 := -1) (x4 := -1) (x5 := nI n) (x6 := nI t) (x7 := -1) (x8 := nI l) (by omega) (by omega) (fun r i k _ _ q => ?_) (fun k hk => ?_) (by rw [up_eq, e5]) (fun k q => ?_) (fun k hk => ?_) (by rw [kB_5, e5]) ⟨⟨5, by decide, rfl⟩, by decide⟩ ⟨c, by omega, rfl⟩ (.inl ⟨rfl, rfl⟩) (fun q => by rcases q with q | q <;> exact absurd q (by decide))
  · rw [e5] at q
    rw [up_ne (by omega)]
    by_cases z4 : r = 10 ∧ i = l ∧ k = 4
    · obtain ⟨rfl, rfl, rfl⟩ := z4
      rw [lB_o (by omega), x4, up_eq]
    · rw [up_ne (by omega)]
      by_cases z3 : r = 10 ∧ i = l ∧ k = 3
      · obtain ⟨rfl, rfl, rfl⟩ := z3
        rw [lB_3, lB_3]
      · by_cases z6 : r = 6 ∧ i = c ∧ k = 6
        · obtain ⟨rfl, rfl, rfl⟩ := z6
          rw [lB_6, lB_6, xo _ _ _ _ (by omega)]
        · by_cases z7 : r = 6 ∧ i = c ∧ k = 7
          · obtain ⟨rfl, rfl, rfl⟩ := z7
            rw [lB_7, lB_7, xo _ _ _ _ (by omega)]
          · rw [lB_o (by omega), lB_o (by omega), xo _ _ _ _ (by omega)]
  · rw [e5, up_ne (by omega), lB_o (by omega)]
    exact xb k hk
  · rw [e5] at q
    exact kB_o (by omega)
  · rw [e5]
    exact kB_i hk
/-- whom a company serves on a day -/
def srv (f : Row) (c x : Int32) : Nat → Nat → Int32
  | 0, _ => -1
  | d + 1, i => if ((f (1056 + 14 * i) = 1 ∨ f (1056 + 14 * i) = 2) ∧ f (1056 + 14 * i + 1) = c) ∧ (f (1056 + 14 * i + 2) ≤ x ∧ x ≤ f (1056 + 14 * i + 3)) then f (1056 + 14 * i + 5) else srv f c x d (i + 1)
theorem srv_s (f : Row) (c x : Int32) (d i : Nat) : srv f c x (d + 1) i = if ((f (1056 + 14 * i) = 1 ∨ f (1056 + 14 * i) = 2) ∧ f (1056 + 14 * i + 1) = c) ∧ (f (1056 + 14 * i + 2) ≤ x ∧ x ≤ f (1056 + 14 * i + 3)) then f (1056 + 14 * i + 5) else srv f c x d (i + 1) := rfl
theorem W_served_2 {B : Nat} {M : Mem} {w : Nat} {f : Row} (h : RW B M w f) (c x : Int32) : ∀ (d i n : Nat), i + d = cn f 5 → d < n → mW_served_2 n w c x (nI i) M = some (srv f c x d i, M) := by
  have b5 := h.c.b5
  intro d
  induction d with
  | zero =>
    intro i n hi hn
    obtain ⟨m, rfl⟩ : ∃ m, n = m + 1 := ⟨n - 1, by omega⟩
    show mW_served_2b (mW_served_2 m) w c x (nI i) M = _
    unfold mW_served_2b
    rw [h.c.e5, h.c.n5, if_neg (nI_nlt (by omega) (by omega))]
    rfl
  | succ d ih =>
    intro i n hi hn
    obtain ⟨m, rfl⟩ : ∃ m, n = m + 1 := ⟨n - 1, by omega⟩
    show mW_served_2b (mW_served_2 m) w c x (nI i) M = _
    unfold mW_served_2b
    have q1 := (h.b i (by omega)).1
    have q10 : M 15 w i 0 = f (1056 + 14 * i) := q1 0 (by decide)
    rw [h.c.e5, h.c.n5, if_pos (nI_lt (by omega) (by omega)), ixx_nI (by omega) (by decide)]
    simp only [B_isContractOf_eq, B_has_eq, Option.bind_some, bI_ite, ixx_nI (show i < 24 by omega) (by decide), nI_1, ih (i + 1) m (by omega) (by omega)]
    rw [q10, q1 1 (by decide), q1 2 (by decide), q1 3 (by decide), q1 5 (by decide)]
    rw [srv_s]
    by_cases z1 : (f (1056 + 14 * i) = 1 ∨ f (1056 + 14 * i) = 2) ∧ f (1056 + 14 * i + 1) = c
    · by_cases z2 : f (1056 + 14 * i + 2) ≤ x ∧ x ≤ f (1056 + 14 * i + 3)
      · rw [if_pos z1, if_pos z2, if_pos ⟨z1, z2⟩]
      · rw [if_pos z1, if_neg z2, if_neg (fun q => z2 q.2)]
    · rw [if_neg z1, if_neg (fun q => z1 q.1)]
theorem W_served_eq {B : Nat} {M : Mem} {w : Nat} {f : Row} (h : RW B M w f) (c x : Int32) : mW_served w c x M = some (srv f c x (cn f 5) 0, M) := by
  have b5 := h.c.b5
  exact W_served_2 h c x (cn f 5) 0 fuel (by omega) (by unfold fuel; omega)
theorem K_isIn_eq {b : Nat} (hb : b < 24) {x : Int32} (hx : ¬ x < 0) (N : Mem) : mK_isIn (nI b) x N = some (bI (N 41 0 0 (1056 + 14 * b + 2) ≤ x ∧ x ≤ N 41 0 0 (1056 + 14 * b + 3)), N) := by
  unfold mK_isIn
  simp only [K_bond_2 hb, K_bond_3 hb, K_in_eq, Option.bind_some, bI_ite, if_neg hx]
  unfold bI
  split <;> rfl
theorem K_served_2 {B : Nat} {M N : Mem} {w : Nat} (h : RW B M w (N 41 0 0)) (c : Int32) {x : Int32} (hx : ¬ x < 0) : ∀ (d i n : Nat), i + d = cn (N 41 0 0) 5 → d < n → mK_servedOn_2 n c x (nI i) N = some (srv (N 41 0 0) c x d i, N) := by
  have b5 := h.c.b5
  intro d
  induction d with
  | zero =>
    intro i n hi hn
    obtain ⟨m, rfl⟩ : ∃ m, n = m + 1 := ⟨n - 1, by omega⟩
    show mK_servedOn_2b (mK_servedOn_2 m) c x (nI i) N = _
    unfold mK_servedOn_2b
    rw [h.c.n5, if_neg (nI_nlt (by omega) (by omega))]
    rfl
  | succ d ih =>
    intro i n hi hn
    obtain ⟨m, rfl⟩ : ∃ m, n = m + 1 := ⟨n - 1, by omega⟩
    show mK_servedOn_2b (mK_servedOn_2 m) c x (nI i) N = _
    unfold mK_servedOn_2b
    have i24 : i < 24 := by omega
    rw [h.c.n5, if_pos (nI_lt (by omega) (by omega))]
    simp only [K_isContract_eq i24, K_bond_1 i24, K_bond_5 i24, K_isIn_eq i24 hx, Option.bind_some, bI_ite, nI_1, ih (i + 1) m (by omega) (by omega)]
    rw [srv_s]
    by_cases z1 : N 41 0 0 (1056 + 14 * i) = 1 ∨ N 41 0 0 (1056 + 14 * i) = 2
    · by_cases z3 : N 41 0 0 (1056 + 14 * i + 1) = c
      · by_cases z2 : N 41 0 0 (1056 + 14 * i + 2) ≤ x ∧ x ≤ N 41 0 0 (1056 + 14 * i + 3)
        · rw [if_pos z1, if_pos z3, if_pos z2, if_pos ⟨⟨z1, z3⟩, z2⟩]
        · rw [if_pos z1, if_pos z3, if_neg z2, if_neg (fun q => z2 q.2)]
      · rw [if_pos z1, if_neg z3, if_neg (fun q => z3 q.1.2)]
    · rw [if_neg z1, if_neg (fun q => z1 q.1.1)]
theorem K_servedOn_eq {B : Nat} {M N : Mem} {w : Nat} (h : RW B M w (N 41 0 0)) (c : Int32) {x : Int32} (hx : ¬ x < 0) : mK_servedOn c x N = some (srv (N 41 0 0) c x (cn (N 41 0 0) 5) 0, N) := by
  have b5 := h.c.b5
  exact K_served_2 h c hx (cn (N 41 0 0) 5) 0 fuel (by omega) (by unfold fuel; omega)
theorem s_serves {B : Nat} {M N : Mem} (h : Rel B M N) (x1 x2 : Int32) : Sim (Rel (B + 1)) (mF_serves x1 x2 M) (mK_serves x1 x2 N) := by
  unfold mF_serves mK_serves
  simp only [F_isCompany_eq h.1.c, K_isCompany_eq, F_isDay_eq, K_isDay_eq, Option.bind_some, bI_ite, bindE]
  refine Sim.ite (fun hp => ?_) (fun _ => Sim.f1 h)
  refine Sim.ite (fun hq => ?_) (fun _ => Sim.f1 h)
  rw [W_served_eq h.1, K_servedOn_eq h.1 x1 (Int32.not_lt.mpr hq.1)]
  simp only [Option.bind_some]
  exact Sim.ite (fun _ => Sim.f2 h) (fun _ => Sim.ret h.up1)
/-- the statute of a use in force on a day -/
def inF (f : Row) (u d : Int32) : Nat → Int32
  | 0 => -1
  | n + 1 => if f (420 + 53 * n) = u ∧ f (420 + 53 * n + 1) ≤ d then nI n else inF f u d n
theorem inF_s (f : Row) (u d : Int32) (n : Nat) : inF f u d (n + 1) = if f (420 + 53 * n) = u ∧ f (420 + 53 * n + 1) ≤ d then nI n else inF f u d n := rfl
theorem inF_spec (f : Row) (u d : Int32) : ∀ n, inF f u d n = -1 ∨ isN (inF f u d n) n
  | 0 => .inl rfl
  | n + 1 => by
    rw [inF_s]
    split
    · exact .inr ⟨n, by omega, rfl⟩
    · exact (inF_spec f u d n).imp id (fun q => q.mono (by omega))
theorem W_inForce_7 {B : Nat} {M : Mem} {w : Nat} {f : Row} (h : RW B M w f) (u x : Int32) : ∀ (i n : Nat), i ≤ cn f 4 → i < n → mW_inForce_7 n w u x (nI i - 1) M = some (inF f u x i, M) := by
  have b4 := h.c.b4
  intro i
  induction i with
  | zero =>
    intro n hi hn
    obtain ⟨m, rfl⟩ : ∃ m, n = m + 1 := ⟨n - 1, by omega⟩
    show mW_inForce_7b (mW_inForce_7 m) w u x (nI 0 - 1) M = _
    unfold mW_inForce_7b
    rw [if_pos (by decide)]
    rfl
  | succ i ih =>
    intro n hi hn
    obtain ⟨m, rfl⟩ : ∃ m, n = m + 1 := ⟨n - 1, by omega⟩
    show mW_inForce_7b (mW_inForce_7 m) w u x (nI (i + 1) - 1) M = _
    unfold mW_inForce_7b
    obtain ⟨q0, q1, -⟩ := h.s i (by omega)
    have e : nI i + -1 = nI i - 1 := (Int32.sub_eq_add_neg _ _).symm
    rw [nI_pred, if_neg (nI_pos (by omega)), ixx_nI (by omega) (by decide), ixx_nI (by omega) (by decide), q0, q1, e, ih m (by omega) (by omega)]
    rw [inF_s]
    by_cases z1 : f (420 + 53 * i) = u
    · by_cases z2 : f (420 + 53 * i + 1) ≤ x
      · rw [if_pos z1, if_pos z2, if_pos ⟨z1, z2⟩]
      · rw [if_pos z1, if_neg z2, if_neg (fun q => z2 q.2)]
    · rw [if_neg z1, if_neg (fun q => z1 q.1)]
theorem W_inForce_eq {B : Nat} {M : Mem} {w : Nat} {f : Row} (h : RW B M w f) (u x : Int32) : mW_inForce w u x M = some (inF f u x (cn f 4), M) := by
  have b4 := h.c.b4
  unfold mW_inForce mW_inForceb
  rw [h.c.e4, h.c.n4]
  exact W_inForce_7 h u x (cn f 4) fuel (by omega) (by unfold fuel; omega)
theorem K_inForce_5 {B : Nat} {M N : Mem} {w : Nat} (h : RW B M w (N 41 0 0)) (u x : Int32) : ∀ (d i n : Nat), i + d = cn (N 41 0 0) 4 → d < n → mK_inForce_5 n u x (inF (N 41 0 0) u x i) (nI i) N = some (inF (N 41 0 0) u x (cn (N 41 0 0) 4), N) := by
  have b4 := h.c.b4
  intro d
  induction d with
  | zero =>
    intro i n hi hn
    obtain ⟨m, rfl⟩ : ∃ m, n = m + 1 := ⟨n - 1, by omega⟩
    show mK_inForce_5b (mK_inForce_5 m) u x _ (nI i) N = _
    unfold mK_inForce_5b
    rw [h.c.n4, if_neg (nI_nlt (by omega) (by omega)), show i = cn (N 41 0 0) 4 by omega]
  | succ d ih =>
    intro i n hi hn
    obtain ⟨m, rfl⟩ : ∃ m, n = m + 1 := ⟨n - 1, by omega⟩
    show mK_inForce_5b (mK_inForce_5 m) u x _ (nI i) N = _
    unfold mK_inForce_5b
    have i12 : i < 12 := by omega
    have ih' := ih (i + 1) m (by omega) (by omega)
    rw [h.c.n4, if_pos (nI_lt (by omega) (by omega)), iS0 i12, iS1 i12, nI_1]
    rw [inF_s] at ih'
    by_cases z1 : N 41 0 0 (420 + 53 * i) = u
    · by_cases z2 : N 41 0 0 (420 + 53 * i + 1) ≤ x
      · rw [if_pos ⟨z1, z2⟩] at ih'
        rw [if_pos z1, if_pos z2]
        exact ih'
      · rw [if_neg (fun q => z2 q.2)] at ih'
        rw [if_pos z1, if_neg z2]
        exact ih'
    · rw [if_neg (fun q => z1 q.1)] at ih'
      rw [if_neg z1]
      exact ih'
theorem K_inForce_eq {B : Nat} {M N : Mem} {w : Nat} (h : RW B M w (N 41 0 0)) (u x : Int32) : mK_inForce u x N = some (inF (N 41 0 0) u x (cn (N 41 0 0) 4), N) := by
  have b4 := h.c.b4
  exact K_inForce_5 h u x (cn (N 41 0 0) 4) 0 fuel (by omega) (by unfold fuel; omega)
theorem s_force {B : Nat} {M N : Mem} (h : Rel B M N) (x1 x2 : Int32) : Sim (Rel (B + 1)) (mF_force x1 x2 M) (mK_force x1 x2 N) := by
  unfold mF_force mK_force
  simp only [F_isUse_eq, K_in_eq, F_isDay_eq, K_isDay_eq, Option.bind_some, bI_ite, bindE]
  refine Sim.ite (fun hp => ?_) (fun _ => Sim.f1 h)
  refine Sim.ite (fun hq => ?_) (fun _ => Sim.f1 h)
  rw [W_inForce_eq h.1, K_inForce_eq h.1]
  simp only [Option.bind_some]
  exact Sim.ite (fun _ => Sim.f2 h) (fun _ => Sim.ret h.up1)
/-- how many lances of a company are so -/
theorem K_manySo_5 {B : Nat} {M N : Mem} {w : Nat} (h : RW B M w (N 41 0 0)) (c k : Nat) : ∀ (d i n : Nat), i + d = cn (N 41 0 0) 3 → d < n → mK_manySo_5 n (nI c) (nI k) (nI (fb_ct (fun l => decide (N 41 0 0 (220 + 5 * l) = nI c ∧ N 41 0 0 (220 + 5 * l + 3) = nI k)) i)) (nI i) N = some (nI (cL (N 41 0 0) c k), N) := by
  have b3 := h.c.b3
  intro d
  induction d with
  | zero =>
    intro i n hi hn
    obtain ⟨m, rfl⟩ : ∃ m, n = m + 1 := ⟨n - 1, by omega⟩
    show mK_manySo_5b (mK_manySo_5 m) (nI c) (nI k) _ (nI i) N = _
    unfold mK_manySo_5b
    rw [h.c.n3, if_neg (nI_nlt (by omega) (by omega)), show i = cn (N 41 0 0) 3 by omega]
    rfl
  | succ d ih =>
    intro i n hi hn
    obtain ⟨m, rfl⟩ : ∃ m, n = m + 1 := ⟨n - 1, by omega⟩
    show mK_manySo_5b (mK_manySo_5 m) (nI c) (nI k) _ (nI i) N = _
    unfold mK_manySo_5b
    have i40 : i < 40 := by omega
    have ih' := ih (i + 1) m (by omega) (by omega)
    rw [fb_ct_succ] at ih'
    rw [h.c.n3, if_pos (nI_lt (by omega) (by omega))]
    simp only [K_its_0 i40, K_its_3 i40, Option.bind_some, nI_1, Int32.add_zero]
    by_cases z1 : N 41 0 0 (220 + 5 * i) = nI c
    · by_cases z2 : N 41 0 0 (220 + 5 * i + 3) = nI k
      · rw [if_pos z1, if_pos z2]
        simp only [z1, z2, and_self, decide_true, if_true] at ih'
        exact ih'
      · rw [if_pos z1, if_neg z2]
        simp only [z2, and_false, decide_false, Bool.false_eq_true, if_false, Nat.add_zero] at ih'
        exact ih'
    · rw [if_neg z1]
      simp only [z1, false_and, decide_false, Bool.false_eq_true, if_false, Nat.add_zero] at ih'
      exact ih'
theorem K_manySo_eq {B : Nat} {M N : Mem} {w : Nat} (h : RW B M w (N 41 0 0)) (c k : Nat) : mK_manySo (nI c) (nI k) N = some (nI (cL (N 41 0 0) c k), N) := by
  have b3 := h.c.b3
  exact K_manySo_5 h c k (cn (N 41 0 0) 3) 0 fuel (by omega) (by unfold fuel; omega)
theorem K_manySo_0 {B : Nat} {M N : Mem} {w : Nat} (h : RW B M w (N 41 0 0)) (c : Nat) : mK_manySo (nI c) 0 N = some (nI (cL (N 41 0 0) c 0), N) := K_manySo_eq h c 0
theorem K_manySo_1 {B : Nat} {M N : Mem} {w : Nat} (h : RW B M w (N 41 0 0)) (c : Nat) : mK_manySo (nI c) 1 N = some (nI (cL (N 41 0 0) c 1), N) := K_manySo_eq h c 1
