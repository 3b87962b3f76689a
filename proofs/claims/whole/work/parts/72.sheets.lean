/-! ===== about, townIs, sheets ===== -/
theorem s_about {B : Nat} {M N : Mem} (h : Rel B M N) (x1 x2 : Int32) : Sim (Rel (B + 1)) (mF_about x1 x2 M) (mK_about x1 x2 N) := by
  unfold mF_about mK_about
  simp only [F_isCompany_eq h.1.c, K_isCompany_eq, Option.bind_some, bI_ite, bindE]
  refine Sim.ite (fun hp => ?_) (fun _ => Sim.f1 h)
  obtain ⟨c, hc, rfl⟩ := h.1.c.in2 hp
  have b2 := h.1.c.b2
  have b6 := h.1.c.b6
  have c5 : c < 5 := by omega
  obtain ⟨⟨a0, a1, a2, a3, a8, a9, a11⟩, -⟩ := h.1.p c hc
  obtain ⟨f6, f7⟩ := h.1.f c hc
  have hday : ¬ N 41 0 0 6 < 0 := by rw [h.1.c.n6]; exact nI_pos (by omega)
  rw [ixx_nI c5 (by decide), a0, a1, a2, a3, a8, a9, f6, f7, h.1.c.e6]
  simp only [K_own_0 c5, K_own_1 c5, K_own_2 c5, K_own_5 c5, K_own_6 c5, K_own_7 c5, K_manySo_0 h.1, K_manySo_1 h.1, W_served_eq h.1, K_servedOn_eq h.1 (nI c) hday]
  refine Sim.ite (fun _ => Sim.ret h.up1) (fun _ => ?_)
  refine Sim.ite (fun _ => Sim.ret h.up1) (fun _ => ?_)
  refine Sim.ite (fun _ => Sim.ret h.up1) (fun _ => ?_)
  refine Sim.ite (fun _ => Sim.ret h.up1) (fun _ => ?_)
  refine Sim.ite (fun _ => Sim.ret h.up1) (fun _ => ?_)
  refine Sim.ite (fun _ => Sim.ret h.up1) (fun _ => ?_)
  refine Sim.ite (fun _ => Sim.ret h.up1) (fun _ => ?_)
  refine Sim.ite (fun _ => Sim.ret h.up1) (fun _ => ?_)
  exact Sim.ite (fun _ => Sim.ret h.up1) (fun _ => Sim.f1 h)
/-- the companies that lie in a town, as bits -/
def lyB (f : Row) (t : Int32) : Nat → Nat → Int32 → Int32
  | 0, _, a => a
  | d + 1, i, a => lyB f t d (i + 1) (if f (100 + 24 * i + 2) = t then a ||| (1 <<< (nI i &&& 31)) else a)
theorem lyB_s (f : Row) (t : Int32) (d i : Nat) (a : Int32) : lyB f t (d + 1) i a = lyB f t d (i + 1) (if f (100 + 24 * i + 2) = t then a ||| (1 <<< (nI i &&& 31)) else a) := rfl
theorem W_lyingIn_4 {B : Nat} {M : Mem} {w : Nat} {f : Row} (h : RW B M w f) (t : Int32) : ∀ (d i n : Nat) (a : Int32), i + d = cn f 2 → d < n → mW_lyingIn_4 n w t a (nI i) M = some (lyB f t d i a, M) := by
  have b2 := h.c.b2
  intro d
  induction d with
  | zero =>
    intro i n a hi hn
    obtain ⟨m, rfl⟩ : ∃ m, n = m + 1 := ⟨n - 1, by omega⟩
    show mW_lyingIn_4b (mW_lyingIn_4 m) w t a (nI i) M = _
    unfold mW_lyingIn_4b
    rw [h.c.e2, h.c.n2, if_neg (nI_nlt (by omega) (by omega))]
    rfl
  | succ d ih =>
    intro i n a hi hn
    obtain ⟨m, rfl⟩ : ∃ m, n = m + 1 := ⟨n - 1, by omega⟩
    show mW_lyingIn_4b (mW_lyingIn_4 m) w t a (nI i) M = _
    unfold mW_lyingIn_4b
    rw [h.c.e2, h.c.n2, if_pos (nI_lt (by omega) (by omega)), ixx_nI (by omega) (by decide), (h.p i (by omega)).1.2.2.2.1, nI_1, ih _ _ _ (by omega) (by omega), ih _ _ _ (by omega) (by omega), lyB_s]
    split <;> rfl
theorem K_townIs_40 {B : Nat} {M N : Mem} {w : Nat} (h : RW B M w (N 41 0 0)) (t : Int32) : ∀ (d i n : Nat) (a : Int32), i + d = cn (N 41 0 0) 2 → d < n → mK_townIs_40 n t a (nI i) N = some (lyB (N 41 0 0) t d i a, N) := by
  have b2 := h.c.b2
  intro d
  induction d with
  | zero =>
    intro i n a hi hn
    obtain ⟨m, rfl⟩ : ∃ m, n = m + 1 := ⟨n - 1, by omega⟩
    show mK_townIs_40b (mK_townIs_40 m) t a (nI i) N = _
    unfold mK_townIs_40b
    rw [h.c.n2, if_neg (nI_nlt (by omega) (by omega))]
    rfl
  | succ d ih =>
    intro i n a hi hn
    obtain ⟨m, rfl⟩ : ∃ m, n = m + 1 := ⟨n - 1, by omega⟩
    show mK_townIs_40b (mK_townIs_40 m) t a (nI i) N = _
    unfold mK_townIs_40b
    rw [h.c.n2, if_pos (nI_lt (by omega) (by omega)), K_own_2 (show i < 5 by omega)]
    simp only [Option.bind_some]
    rw [nI_1, ih _ _ _ (by omega) (by omega), ih _ _ _ (by omega) (by omega), lyB_s, Int32.or_zero]
    split <;> rfl
theorem s_townIs {B : Nat} {M N : Mem} (h : Rel B M N) (x1 x2 : Int32) : Sim (Rel (B + 1)) (mF_townIs x1 x2 M) (mK_townIs x1 x2 N) := by
  unfold mF_townIs mK_townIs mK_townIsb mW_lyingIn mW_lyingInb
  simp only [F_isTown_eq h.1.c, K_isTown_eq, K_in_eq, Option.bind_some, bI_ite, bindE]
  refine Sim.ite (fun hp => ?_) (fun _ => Sim.f1 h)
  obtain ⟨t, ht, rfl⟩ := h.1.c.in0 hp
  have b0 := h.1.c.b0
  have b2 := h.1.c.b2
  have t8 : t < 8 := by omega
  have q1 := (h.1.t t ht).1
  have q0 : M 3 0 t 0 = N 41 0 0 (20 + 4 * t) := q1 0 (by decide)
  have wl := W_lyingIn_4 h.1 (nI t) (cn (N 41 0 0) 2) 0 fuel 0 (by omega) (by unfold fuel; omega)
  have kl := K_townIs_40 h.1 (nI t) (cn (N 41 0 0) 2) 0 fuel 0 (by omega) (by unfold fuel; omega)
  rw [ixx_nI t8 (by decide), show mW_lyingIn_4 fuel 0 (nI t) 0 0 M = _ from wl, show mK_townIs_40 fuel (nI t) 0 0 N = _ from kl]
  by_cases hr : 0 ≤ x2 ∧ x2 ≤ 4
  · rw [if_pos hr]
    obtain ⟨j, hj, e⟩ := in_lit0 (b := 4) (by decide) hr
    rcases (by omega : j = 0 ∨ j = 1 ∨ j = 2 ∨ j = 3 ∨ j = 4) with rfl | rfl | rfl | rfl | rfl
    · have e2 : x2 = 0 := e
      subst e2
      rw [if_pos rfl, if_pos (by decide), q0, K_ofTown_0 t8]
      exact Sim.ret h.up1
    · have e2 : x2 = 1 := e
      subst e2
      rw [if_neg (by decide), if_pos rfl, if_pos (by decide), q1 1 (by decide), K_ofTown_1 t8]
      exact Sim.ret h.up1
    · have e2 : x2 = 2 := e
      subst e2
      rw [if_neg (by decide), if_neg (by decide), if_pos rfl, if_pos (by decide), q1 2 (by decide), K_ofTown_2 t8]
      exact Sim.ret h.up1
    · have e2 : x2 = 3 := e
      subst e2
      rw [if_neg (by decide), if_neg (by decide), if_neg (by decide), if_pos rfl, if_pos (by decide), q1 3 (by decide), K_ofTown_3 t8]
      exact Sim.ret h.up1
    · have e2 : x2 = 4 := e
      subst e2
      rw [if_neg (by decide), if_neg (by decide), if_neg (by decide), if_neg (by decide), if_pos rfl, if_neg (by decide)]
      exact Sim.ret h.up1
  · rw [if_neg hr]
    have n0 : ¬ x2 = 0 := fun q => hr (by rw [q]; decide)
    have n1 : ¬ x2 = 1 := fun q => hr (by rw [q]; decide)
    have n2 : ¬ x2 = 2 := fun q => hr (by rw [q]; decide)
    have n3 : ¬ x2 = 3 := fun q => hr (by rw [q]; decide)
    have n4 : ¬ x2 = 4 := fun q => hr (by rw [q]; decide)
    rw [if_neg n0, if_neg n1, if_neg n2, if_neg n3, if_neg n4]
    exact Sim.f1 h
/-! rows that are filled -/
def fm (M : Mem) (r w i a n : Nat) (v : Nat → Int32) : Mem := fun r' w' i' k' => if r' = r ∧ w' = w ∧ i' = i ∧ a ≤ k' ∧ k' < a + n then v (k' - a) else M r' w' i' k'
theorem fm_0 {M : Mem} {r w i a : Nat} {v : Nat → Int32} : fm M r w i a 0 v = M := by
  funext r' w' i' k'
  exact if_neg (by omega)
theorem fm_o {M : Mem} {r w i a n r' w' i' k' : Nat} {v : Nat → Int32} (h : ¬ (r' = r ∧ w' = w ∧ i' = i ∧ a ≤ k' ∧ k' < a + n)) : fm M r w i a n v r' w' i' k' = M r' w' i' k' := if_neg h
theorem fm_i {M : Mem} {r w i a n j : Nat} {v : Nat → Int32} (h : j < n) : fm M r w i a n v r w i (a + j) = v j := by
  unfold fm
  rw [if_pos (by omega)]
  congr 1
  omega
theorem fm_s {M : Mem} {r w i a n : Nat} {v : Nat → Int32} : up (fm M r w i a n v) r w i (a + n) (v n) = fm M r w i a (n + 1) v := by
  funext r' w' i' k'
  by_cases e : r' = r ∧ w' = w ∧ i' = i ∧ k' = a + n
  · obtain ⟨rfl, rfl, rfl, rfl⟩ := e
    rw [up_eq, fm_i (by omega)]
  · rw [up_ne e]
    unfold fm
    by_cases e2 : r' = r ∧ w' = w ∧ i' = i ∧ a ≤ k' ∧ k' < a + n
    · rw [if_pos e2, if_pos (by omega)]
    · rw [if_neg e2, if_neg (by omega)]
theorem fm_s0 {M : Mem} {r w i n : Nat} {v : Nat → Int32} : up (fm M r w i 0 n v) r w i n (v n) = fm M r w i 0 (n + 1) v := by
  have := fm_s (M := M) (r := r) (w := w) (i := i) (a := 0) (n := n) (v := v)
  rwa [Nat.zero_add] at this
/-- what isn't the world is another -/
theorem Rel.rest {B : Nat} {M M' N N' : Mem} (h : Rel B M N) (hO : RO M' N') (hM : ∀ r w i k, r < 18 → M' r w i k = M r w i k) (hN : ∀ r k, (r = 41 ∨ r = 42 ∨ (r = 40 ∧ k = 4)) → N' r 0 0 k = N r 0 0 k) : Rel (B + 1) M' N' := by
  obtain ⟨h1, h2, h3⟩ := h
  have e41 : N' 41 0 0 = N 41 0 0 := funext fun k => hN 41 k (by omega)
  have e42 : N' 42 0 0 = N 42 0 0 := funext fun k => hN 42 k (by omega)
  have g : ∀ {w : Nat} {f : Row}, RW B M w f → RW (B + 1) M' w f := fun {w f} q => q.cong (by omega) fun r i k _ h18 => hM r w i k h18
  refine ⟨?_, ?_, hO⟩
  · rw [e41]; exact g h1
  · rw [e42, hN 40 4 (by omega)]; exact h2.imp id g
/-- sheets are others -/
theorem RO.sheets {M M' N N' : Mem} (h : RO M N) (hM : ∀ r w i k, r ≠ 19 → r ≠ 20 → M' r w i k = M r w i k) (hN : ∀ r k, r ≠ 64 → r ≠ 65 → r ≠ 66 → r ≠ 67 → N' r 0 0 k = N r 0 0 k) (hS : ∀ s, s < 4 → M' 19 0 s 0 = N' 64 0 0 s ∧ M' 19 0 s 1 = N' 65 0 0 s ∧ isN (N' 65 0 0 s) 25 ∧ ∀ i, i < 24 → M' 20 0 s i = N' 66 0 0 (24 * s + i)) : RO M' N' := by
  obtain ⟨h1, h2, h3, h4, h5, h6⟩ := h
  have e22 : N' 40 0 0 22 = N 40 0 0 22 := hN 40 22 (by omega) (by omega) (by omega) (by omega)
  refine ⟨?_, fun k hk => ?_, hS, ?_, ?_, fun i hi => ?_⟩
  · rw [hM _ _ _ _ (by omega) (by omega), hN _ _ (by omega) (by omega) (by omega) (by omega)]; exact h1
  · rw [hM _ _ _ _ (by omega) (by omega), hN _ _ (by omega) (by omega) (by omega) (by omega)]; exact h2 k hk
  · rw [hM _ _ _ _ (by omega) (by omega), e22]; exact h4
  · rw [e22]; exact h5
  · rw [cn_same (f := N 40 0 0) (f' := N' 40 0 0) e22] at hi
    rw [hM _ _ _ _ (by omega) (by omega), hN _ _ (by omega) (by omega) (by omega) (by omega)]
    exact h6 i hi
theorem S_cut_eq (s : Nat) (v : Int32) (M : Mem) : mS_cut s v M = some (if M 19 0 s 0 = 8 then v.toInt8.toInt32 else if M 19 0 s 0 = 16 then v.toInt16.toInt32 else v, M) := by
  unfold mS_cut
  split
  · rfl
  · split <;> rfl
theorem ix24 (s i : Nat) : nI 24 * nI s + nI i = nI (24 * s + i) := by rw [pk_mul, nI_add]
theorem s_put {B : Nat} {M N : Mem} (h : Rel B M N) (x1 x2 x3 : Int32) : Sim (Rel (B + 1)) (mF_put x1 x2 x3 M) (mK_put x1 x2 x3 N) := by
  unfold mF_put mK_put
  simp only [F_isSheet_eq, K_isSheet_eq, S_missing_eq, S_cut_eq, F_within_eq, K_in_eq, Option.bind_some, bI_ite, bindE]
  refine Sim.ite (fun hp => ?_) (fun _ => Sim.f1 h)
  obtain ⟨s, hs, rfl⟩ := in_lit0 (b := 3) (by decide) hp
  have hs4 : s < 4 := by omega
  obtain ⟨q1, q2, ⟨n, hn, en⟩, q4⟩ := h.2.2.2.2.1 s hs4
  rw [ixx_nI hs4 (by decide), ixx_nI hs4 (by decide)]
  simp only [q1, q2]
  refine Sim.ite (fun _ => Sim.f2 h) (fun hz => ?_)
  rw [ixx_nI hs4 (by decide)]
  refine Sim.ite (fun hq => ?_) (fun _ => Sim.f1 h)
  rw [en] at hq
  obtain ⟨i, hi, rfl⟩ := (in_cnt (by omega)).mp hq
  have i24 : ∀ {F : Nat → Option (Int32 × Mem)}, ixx ((24 * nI s) + nI i) 96 F = F (24 * s + i) := fun {F} => ixx_e (ix24 s i) (by omega) (by decide)
  rw [ixx_nI (by omega) (by decide), ixx_nI hs4 (by decide), ixx_nI hs4 (by decide), i24, i24, i24]
  have key : ∀ v, Sim (Rel (B + 1)) (some (1, up M 20 0 s i v)) (some (1, up N 66 0 0 (24 * s + i) v)) := by
    intro v
    refine Sim.ret (h.rest (h.2.2.sheets (fun r w i k _ _ => up_ne (by omega)) (fun r k _ _ _ _ => up_ne (by omega)) fun s' hs' => ?_) (fun r w i k _ => up_ne (by omega)) (fun r k q => up_ne (by omega)))
    obtain ⟨z1, z2, z3, z4⟩ := h.2.2.2.2.1 s' hs'
    rw [upR (by decide), upR (by decide), upR (by decide), upR (by decide)]
    refine ⟨z1, z2, z3, fun j hj => ?_⟩
    by_cases e : s' = s ∧ j = i
    · obtain ⟨rfl, rfl⟩ := e
      rw [up_eq, up_eq]
    · rw [up_ne (by omega), up_ne (by omega)]
      exact z4 j hj
  by_cases e8 : N 64 0 0 s = 8
  · rw [if_pos e8, if_pos e8]
    exact key _
  · rw [if_neg e8, if_neg e8]
    by_cases e16 : N 64 0 0 s = 16
    · rw [if_pos e16, if_pos e16]
      exact key _
    · rw [if_neg e16, if_neg e16]
      exact key _
theorem S_begin_12 (s : Nat) (M : Mem) : ∀ (d i n : Nat), i + d = 24 → d < n → mS_begin_12 n s (nI i) (fm M 20 0 s 0 i (fun _ => 0)) = some (fm M 20 0 s 0 24 (fun _ => 0)) := by
  intro d
  induction d with
  | zero =>
    intro i n hi hn
    obtain ⟨m, rfl⟩ : ∃ m, n = m + 1 := ⟨n - 1, by omega⟩
    have e : i = 24 := by omega
    subst e
    rfl
  | succ d ih =>
    intro i n hi hn
    obtain ⟨m, rfl⟩ : ∃ m, n = m + 1 := ⟨n - 1, by omega⟩
    show mS_begin_12b (mS_begin_12 m) s (nI i) _ = _
    unfold mS_begin_12b
    rw [if_pos (show nI i < (24 : Int32) from nI_lt (b := 24) (by omega) (by omega)), ixx_nI (by omega) (by decide), nI_1]
    have z := ih (i + 1) m (by omega) (by omega)
    rw [← fm_s0] at z
    exact z
theorem S_begin_eq (s : Nat) (x y : Int32) (M : Mem) : mS_begin s x y M = some (fm (up (up M 19 0 s 0 x) 19 0 s 1 y) 20 0 s 0 24 (fun _ => 0)) := by
  have z := S_begin_12 s (up (up M 19 0 s 0 x) 19 0 s 1 y) 24 0 fuel (by omega) (by unfold fuel; omega)
  rw [fm_0] at z
  exact z
theorem K_sheet_90 {s : Nat} (hs : s < 4) (N : Mem) : ∀ (d i n : Nat), i + d = 24 → d < n → mK_sheet_90 n (nI s) (nI i) (fm N 66 0 0 (24 * s) i (fun _ => 0)) = some (1, fm N 66 0 0 (24 * s) 24 (fun _ => 0)) := by
  intro d
  induction d with
  | zero =>
    intro i n hi hn
    obtain ⟨m, rfl⟩ : ∃ m, n = m + 1 := ⟨n - 1, by omega⟩
    have e : i = 24 := by omega
    subst e
    rfl
  | succ d ih =>
    intro i n hi hn
    obtain ⟨m, rfl⟩ : ∃ m, n = m + 1 := ⟨n - 1, by omega⟩
    show mK_sheet_90b (mK_sheet_90 m) (nI s) (nI i) _ = _
    unfold mK_sheet_90b
    have i24 : ∀ {F : Nat → Option (Int32 × Mem)}, ixx ((24 * nI s) + nI i) 96 F = F (24 * s + i) := fun {F} => ixx_e (ix24 s i) (by omega) (by decide)
    rw [if_pos (show nI i < (24 : Int32) from nI_lt (b := 24) (by omega) (by omega)), i24, nI_1]
    have z := ih (i + 1) m (by omega) (by omega)
    rw [← fm_s] at z
    exact z
theorem s_sheet {B : Nat} {M N : Mem} (h : Rel B M N) (x1 x2 x3 : Int32) : Sim (Rel (B + 1)) (mF_sheet x1 x2 x3 M) (mK_sheet x1 x2 x3 N) := by
  unfold mF_sheet mK_sheet mF_sheetb mK_sheetb
  simp only [F_isSheet_eq, K_isSheet_eq, Option.bind_some, bI_ite, bindE]
  refine Sim.ite (fun hp => ?_) (fun _ => Sim.f1 h)
  obtain ⟨s, hs, rfl⟩ := in_lit0 (b := 3) (by decide) hp
  have hs4 : s < 4 := by omega
  have key0 : ∀ x y, isN y 25 → Sim (Rel (B + 1)) (some (1, fm (up (up M 19 0 s 0 x) 19 0 s 1 y) 20 0 s 0 24 (fun _ => 0))) (mK_sheet_90 fuel (nI s) 0 (up (up N 64 0 0 s x) 65 0 0 s y)) := by
    intro x y hy
    have z := K_sheet_90 hs4 (up (up N 64 0 0 s x) 65 0 0 s y) 24 0 fuel (by omega) (by unfold fuel; omega)
    rw [fm_0] at z
    rw [show mK_sheet_90 fuel (nI s) 0 (up (up N 64 0 0 s x) 65 0 0 s y) = _ from z]
    refine Sim.ret (h.rest (h.2.2.sheets (fun r w i k _ _ => by rw [fm_o (by omega), up_ne (by omega), up_ne (by omega)]) (fun r k _ _ _ _ => by rw [fm_o (by omega), up_ne (by omega), up_ne (by omega)]) fun s' hs' => ?_) (fun r w i k _ => by rw [fm_o (by omega), up_ne (by omega), up_ne (by omega)]) (fun r k q => by rw [fm_o (by omega), up_ne (by omega), up_ne (by omega)]))
    obtain ⟨z1, z2, z3, z4⟩ := h.2.2.2.2.1 s' hs'
    by_cases e : s' = s
    · subst e
      have e0 : fm (up (up M 19 0 s' 0 x) 19 0 s' 1 y) 20 0 s' 0 24 (fun _ => 0) 19 0 s' 0 = x := by rw [fm_o (by omega), up_ne (by omega), up_eq]
      have e1 : fm (up (up M 19 0 s' 0 x) 19 0 s' 1 y) 20 0 s' 0 24 (fun _ => 0) 19 0 s' 1 = y := by rw [fm_o (by omega), up_eq]
      have e2 : fm (up (up N 64 0 0 s' x) 65 0 0 s' y) 66 0 0 (24 * s') 24 (fun _ => 0) 64 0 0 s' = x := by rw [fm_o (by omega), up_ne (by omega), up_eq]
      have e3 : fm (up (up N 64 0 0 s' x) 65 0 0 s' y) 66 0 0 (24 * s') 24 (fun _ => 0) 65 0 0 s' = y := by rw [fm_o (by omega), up_eq]
      rw [e0, e1, e2, e3]
      refine ⟨rfl, rfl, hy, fun j hj => ?_⟩
      rw [fm_i hj]
      have := fm_i (M := up (up M 19 0 s' 0 x) 19 0 s' 1 y) (r := 20) (w := 0) (i := s') (a := 0) (n := 24) (v := fun _ => 0) hj
      rw [Nat.zero_add] at this
      exact this
    · rw [fm_o (by omega), up_ne (by omega), up_ne (by omega), fm_o (by omega), up_ne (by omega), up_ne (by omega), fm_o (by omega), up_ne (by omega), up_ne (by omega), fm_o (by omega), up_ne (by omega), up_ne (by omega)]
      refine ⟨z1, z2, z3, fun j hj => ?_⟩
      rw [fm_o (by omega), up_ne (by omega), up_ne (by omega), fm_o (by omega), up_ne (by omega), up_ne (by omega)]
      exact z4 j hj
  have key : ¬ (x2 ≠ 0 ∧ x3 < 0) → Sim (Rel (B + 1)) (mF_sheet_49 (nI s) x2 x3 M) (mK_sheet_49 (nI s) x2 x3 N) := by
    intro hlo
    unfold mF_sheet_49 mK_sheet_49 mF_sheet_49b mK_sheet_49b
    simp only [ixx_nI hs4 (show (4 : Nat) < 2 ^ 31 by decide), S_begin_eq, Option.bind_some, bindE]
    by_cases e : x2 = 0
    · subst e
      simp only [if_true]
      exact key0 0 0 ⟨0, by decide, rfl⟩
    · simp only [if_neg e]
      refine Sim.ite (fun hq => ?_) (fun _ => Sim.f1 h)
      refine key0 x2 x3 ?_
      have h0 : ¬ x3 < 0 := fun q => hlo ⟨e, q⟩
      exact in_lit0 (b := 24) (by decide) ⟨Int32.not_lt.mp h0, hq⟩
  have st : x2 ≠ 0 → Sim (Rel (B + 1)) (if x2 = 0 then mF_sheet_49 (nI s) x2 x3 M else if x3 < 0 then mF_finding 3 M else mF_sheet_49 (nI s) x2 x3 M) (if x2 = 0 then mK_sheet_49 (nI s) x2 x3 N else if x3 < 0 then mK_finds 3 N else mK_sheet_49 (nI s) x2 x3 N) := by
    intro e
    rw [if_neg e, if_neg e]
    exact Sim.ite (fun _ => Sim.f3 h) (fun q => key (fun z => q z.2))
  refine Sim.ite (fun e => ?_) (fun e => ?_)
  · rw [if_pos e, if_pos e]
    exact key (fun z => z.1 e)
  · refine Sim.ite (fun _ => st e) (fun _ => ?_)
    refine Sim.ite (fun _ => st e) (fun _ => ?_)
    exact Sim.ite (fun _ => st e) (fun _ => Sim.f1 h)
