/-! ===== voices ===== -/
def bdy (k a : Nat) : Int32 := ([10, 11, 12, 13, 10, 20, 21, 13, 31, 20, 30, 13, 10, 40, 12, 13, 51, 11, 12, 50, 10, 11, 60, 13, 10, 11, 12, 70] : List Int32).getD (4 * k + a) 0
/-- what two memories have of a voice: the class's is M0 but for the trace, the reference's N0 but for its own; the traces are the same -/
def VR (M0 N0 M N : Mem) : Prop := (∀ r w i k, r ≠ 22 → ¬ (r = 21 ∧ k = 1) → M r w i k = M0 r w i k) ∧ (∀ r w i k, r ≠ 62 → ¬ (r = 40 ∧ k = 22) → N r w i k = N0 r w i k) ∧ ∃ n, n ≤ 40 ∧ M 21 0 0 1 = nI n ∧ N 40 0 0 22 = nI n ∧ ∀ i, i < n → M 22 0 0 i = N 62 0 0 i
/-- a body begins -/
def trc (M : Mem) (b : Int32) : Mem := if M 21 0 0 1 < 40 then up (up M 22 0 0 (M 21 0 0 1).toNatClampNeg b) 21 0 0 1 (M 21 0 0 1 + 1) else M
theorem VR.ran {M0 N0 M N : Mem} (h : VR M0 N0 M N) (b : Int32) : ∃ N', mK_ran b N = some N' ∧ VR M0 N0 (trc M b) N' := by
  obtain ⟨h1, h2, n, hn, h3, h4, h5⟩ := h
  unfold mK_ran trc
  rw [h3, h4]
  by_cases e : n = 40
  · subst e
    rw [if_pos (by decide), if_neg (by decide)]
    exact ⟨N, rfl, h1, h2, 40, hn, h3, h4, h5⟩
  · have e1 : ¬ nI n = (40 : Int32) := fun q => e ((nI_eq (b := 40) (by omega) (by decide)).mp q)
    have e2 : nI n < (40 : Int32) := nI_lt (b := 40) (by omega) (by decide)
    rw [if_neg e1, if_pos e2, ixx_nI (by omega) (by decide), nI_clamp (by omega)]
    have e3 : up N 62 0 0 n b 40 0 0 22 = nI n := by rw [upR (by decide), h4]
    simp only [e3, nI_1]
    refine ⟨_, rfl, fun r w i k q1 q2 => ?_, fun r w i k q1 q2 => ?_, n + 1, by omega, up_eq, up_eq, fun i hi => ?_⟩
    · rw [up_ne (by omega), up_ne (by omega)]
      exact h1 r w i k q1 q2
    · rw [up_ne (by omega), up_ne (by omega)]
      exact h2 r w i k q1 q2
    · have f1 : up (up M 22 0 0 n b) 21 0 0 1 (nI (n + 1)) 22 0 0 i = up M 22 0 0 n b 22 0 0 i := upR (by decide)
      have f2 : up (up N 62 0 0 n b) 40 0 0 22 (nI (n + 1)) 62 0 0 i = up N 62 0 0 n b 62 0 0 i := upR (by decide)
      rw [f1, f2]
      by_cases z : i = n
      · subst z
        rw [up_eq, up_eq]
      · rw [up_ne (by omega), up_ne (by omega)]
        exact h5 i (by omega)
theorem V_res (rw : Int32 → Int32 → Int32 → Mem → Option (Int32 × Mem)) (n : Nat) (x d : Int32) (M : Mem) : ∀ k, k < 7 → ∀ a, a < 4 → mV_from_15 rw (n + 4) (nI a) x d (nI k) 0 M = mV_from_72 rw x d (bdy k a) M := by
  intro k hk a ha
  rcases (by omega : k = 0 ∨ k = 1 ∨ k = 2 ∨ k = 3 ∨ k = 4 ∨ k = 5 ∨ k = 6) with rfl | rfl | rfl | rfl | rfl | rfl | rfl <;>
  rcases (by omega : a = 0 ∨ a = 1 ∨ a = 2 ∨ a = 3) with rfl | rfl | rfl | rfl <;> rfl
theorem V_72 (rw : Int32 → Int32 → Int32 → Mem → Option (Int32 × Mem)) (x d y : Int32) {M : Mem} {n : Nat} (hn : n ≤ 40) (h : M 21 0 0 1 = nI n) : mV_from_72 rw x d y M = rw y x (d + 1) (trc M y) := by
  unfold mV_from_72 mV_from_72b trc
  simp only [h, bindE]
  by_cases e : nI n < (40 : Int32)
  · have hlt : n < 40 := (nI_ltI (b := 40) (by omega) (by decide)).mp e
    have e3 : up M 22 0 0 n y 21 0 0 1 = nI n := by rw [upR (by decide), h]
    rw [if_pos e, if_pos e, ixx_nI hlt (by decide), nI_clamp (by omega), e3]
  · rw [if_neg e, if_neg e]
/-- the body of a kind -/
theorem g_from (n dp : Nat) (hdp : dp ≤ 40) {k a : Nat} (hk : k < 7) (ha : a < 4) (x : Int32) {M : Mem} {l : Nat} (hl : l ≤ 40) (h : M 21 0 0 1 = nI l) : g2 (n + 1) 1 (nI k) (nI a) x (nI dp) M = g2 n 2 (bdy k a) x (nI (dp + 1)) 0 (trc M (bdy k a)) := by
  show mV_from (fun x1 x2 x3 M => g2 n 2 x1 x2 x3 0 M) (nI k) (nI a) x (nI dp) M = _
  unfold mV_from mV_fromb
  rw [if_pos (show nI dp ≤ (40 : Int32) from nI_le (b := 40) hdp (by decide)), show mV_from_15 (fun x1 x2 x3 M => g2 n 2 x1 x2 x3 0 M) fuel (nI a) x (nI dp) (nI k) 0 M = _ from V_res _ 99996 x (nI dp) M k hk a ha, V_72 _ _ _ _ hl h, nI_1]
theorem g_own (n : Nat) (a x d : Int32) (M : Mem) : g2 (n + 1) 0 a x d 0 M = g2 n 1 (M 21 0 0 2) a x d M := by
  show mV_own _ a x d M = _
  unfold mV_own
  rw [bindE]
theorem g_above (n : Nat) {k : Nat} (hk : k < 7) (a x d : Int32) (M : Mem) : g2 (n + 1) 3 (nI k) a x d M = g2 n 1 (tabA k) a x d M := by
  show mV_above _ (nI k) a x d M = _
  unfold mV_above
  rw [ixx_nI hk (by decide), bindE]
theorem Sim.map {P : Mem → Mem → Prop} {a b : Option (Int32 × Mem)} (f : Int32 → Int32) (h : Sim P a b) : Sim P (a.bind fun q => some (f q.1, q.2)) (b.bind fun q => some (f q.1, q.2)) := by
  obtain ⟨r, M', N', rfl, rfl, hp⟩ := h
  exact ⟨f r, M', N', rfl, rfl, hp⟩
theorem Sim.bind {P Q : Mem → Mem → Prop} {a b : Option (Int32 × Mem)} {F G : Int32 × Mem → Option (Int32 × Mem)} (h : Sim P a b) (hf : ∀ r M N, P M N → Sim Q (F (r, M)) (G (r, N))) : Sim Q (a.bind F) (b.bind G) := by
  obtain ⟨r, M', N', rfl, rfl, hp⟩ := h
  exact hf r M' N' hp
/-- one bond's voice -/
def VB (M0 N0 : Mem) (b κ : Nat) (s : Int32) : Prop := b < 24 ∧ (1 ≤ κ ∧ κ < 7) ∧ M0 21 0 0 2 = nI κ ∧ M0 21 0 0 3 = nI b ∧ M0 21 0 0 4 = s ∧ N0 41 0 0 (1056 + 14 * b) = nI κ ∧ N0 41 0 0 (1056 + 14 * b + 4) = s
section Voice
variable {M0 N0 : Mem} {b κ : Nat} {s : Int32}
theorem VB.k0 (hb : VB M0 N0 b κ s) {M N : Mem} (h : VR M0 N0 M N) : N 41 0 0 (1056 + 14 * b) = nI κ := (h.2.1 _ _ _ _ (by decide) (by omega)).trans hb.2.2.2.2.2.1
theorem VB.k4 (hb : VB M0 N0 b κ s) {M N : Mem} (h : VR M0 N0 M N) : N 41 0 0 (1056 + 14 * b + 4) = s := (h.2.1 _ _ _ _ (by decide) (by omega)).trans hb.2.2.2.2.2.2
theorem VB.m2 (hb : VB M0 N0 b κ s) {M N : Mem} (h : VR M0 N0 M N) : M 21 0 0 2 = nI κ := (h.1 _ _ _ _ (by decide) (by omega)).trans hb.2.2.1
theorem VB.m3 (hb : VB M0 N0 b κ s) {M N : Mem} (h : VR M0 N0 M N) : M 21 0 0 3 = nI b := (h.1 _ _ _ _ (by decide) (by omega)).trans hb.2.2.2.1
theorem VB.m4 (hb : VB M0 N0 b κ s) {M N : Mem} (h : VR M0 N0 M N) : M 21 0 0 4 = s := (h.1 _ _ _ _ (by decide) (by omega)).trans hb.2.2.2.2.1
/-- a body that begins on both sides -/
theorem v_begin {M N : Mem} (h : VR M0 N0 M N) (n dp : Nat) (hdp : dp ≤ 40) {k a : Nat} (hk : k < 7) (ha : a < 4) (x : Int32) {G : Mem → Option (Int32 × Mem)} (hs : ∀ M' N', VR M0 N0 M' N' → Sim (VR M0 N0) (g2 n 2 (bdy k a) x (nI (dp + 1)) 0 M') (G N')) : Sim (VR M0 N0) (g2 (n + 1) 1 (nI k) (nI a) x (nI dp) M) ((mK_ran (bdy k a) N).bind G) := by
  obtain ⟨N', e, h'⟩ := h.ran (bdy k a)
  obtain ⟨l, hl, e1, -⟩ := h.2.2
  rw [g_from n dp hdp hk ha x hl e1, e]
  exact hs _ _ h'
theorem v_bindBond (hb : VB M0 N0 b κ s) {M N : Mem} (h : VR M0 N0 M N) (n dp : Nat) (hdp : dp ≤ 40) {k : Nat} (hk : k < 7) (hbd : bdy k 0 = 10) (x : Int32) : Sim (VR M0 N0) (g2 (n + 2) 1 (nI k) 0 x (nI dp) M) (mK_bindsBond (nI b) x N) := by
  unfold mK_bindsBond
  rw [← hbd]
  refine v_begin h (n + 1) dp hdp (a := 0) hk (by decide) x (fun M' N' h' => ?_)
  rw [hbd]
  show Sim _ (some (x + M' 21 0 0 3, M')) _
  rw [hb.m3 h']
  exact Sim.ret h'
theorem v_binds (hb : VB M0 N0 b κ s) {M N : Mem} (h : VR M0 N0 M N) (n dp : Nat) (hdp : dp ≤ 30) (x : Int32) : Sim (VR M0 N0) (g2 (n + 5) 1 (nI κ) 0 x (nI dp) M) (mK_bindsOf (nI b) x N) := by
  unfold mK_bindsOf
  have h24 := hb.1
  simp only [K_bond_0 h24, Option.bind_some, hb.k0 h, bindE]
  rcases (by have := hb.2.1; omega : κ = 2 ∨ κ = 4 ∨ κ = 1 ∨ κ = 3 ∨ κ = 5 ∨ κ = 6) with rfl | rfl | e
  · rw [if_pos (by decide)]
    refine v_begin h (n + 4) dp (by omega) (k := 2) (a := 0) (by decide) (by decide) x (fun M' N' h' => ?_)
    show Sim _ ((g2 (n + 3) 3 (nI 2) 0 x (nI (dp + 1)) M').bind fun q => some (q.1 * 3, q.2)) _
    rw [g_above (n + 2) (k := 2) (by decide)]
    exact Sim.map (· * 3) (v_bindBond hb h' n (dp + 1) (by omega) (k := 1) (by decide) rfl x)
  · rw [if_neg (by decide), if_pos (by decide)]
    refine v_begin h (n + 4) dp (by omega) (k := 4) (a := 0) (by decide) (by decide) x (fun M' N' h' => ?_)
    show Sim _ ((g2 (n + 3) 3 (nI 4) 0 (x + M' 21 0 0 4) (nI (dp + 1)) M').bind fun q => some (q.1, q.2)) _
    rw [g_above (n + 2) (k := 4) (by decide), bindE, K_bond_4 h24, hb.k4 h', hb.m4 h']
    exact v_bindBond hb h' n (dp + 1) (by omega) (k := 0) (by decide) rfl _
  · have e2 : ¬ nI κ = 2 := by rcases e with rfl | rfl | rfl | rfl <;> decide
    have e4 : ¬ nI κ = 4 := by rcases e with rfl | rfl | rfl | rfl <;> decide
    rw [if_neg e2, if_neg e4]
    exact v_bindBond hb h (n + 3) dp (by omega) (by have := hb.2.1; omega) (by rcases e with rfl | rfl | rfl | rfl <;> rfl) x
theorem v_payBond (hb : VB M0 N0 b κ s) {M N : Mem} (h : VR M0 N0 M N) (n dp : Nat) (hdp : dp ≤ 20) {k : Nat} (hk : k < 7) (hbd : bdy k 1 = 11) (x : Int32) : Sim (VR M0 N0) (g2 (n + 8) 1 (nI k) 1 x (nI dp) M) (mK_paysBond (nI b) x N) := by
  unfold mK_paysBond
  rw [← hbd]
  refine v_begin h (n + 7) dp (by omega) (a := 1) hk (by decide) x (fun M' N' h' => ?_)
  rw [hbd]
  show Sim _ ((g2 (n + 6) 0 0 x (nI (dp + 1)) 0 M').bind fun q => some (q.1 + q.2 21 0 0 4, q.2)) _
  rw [g_own, hb.m2 h']
  refine Sim.bind (v_binds hb h' n (dp + 1) (by omega) x) (fun r M2 N2 h2 => ?_)
  simp only [K_bond_4 hb.1, Option.bind_some, hb.k4 h2, hb.m4 h2]
  exact Sim.ret h2
theorem v_pays (hb : VB M0 N0 b κ s) {M N : Mem} (h : VR M0 N0 M N) (n dp : Nat) (hdp : dp ≤ 15) (x : Int32) : Sim (VR M0 N0) (g2 (n + 11) 1 (nI κ) 1 x (nI dp) M) (mK_paysOf (nI b) x N) := by
  unfold mK_paysOf
  have h24 := hb.1
  simp only [K_isContract_eq h24, K_bond_0 h24, Option.bind_some, hb.k0 h, bindE, bI_ite]
  rcases (by have := hb.2.1; omega : (κ = 1 ∨ κ = 2) ∨ κ = 3 ∨ κ = 4 ∨ κ = 5 ∨ κ = 6) with e | rfl | e
  · have e1 : nI κ = 1 ∨ nI κ = 2 := by rcases e with rfl | rfl <;> decide
    have eb : bdy κ 1 = 20 := by rcases e with rfl | rfl <;> rfl
    rw [if_pos e1, ← eb]
    refine v_begin h (n + 10) dp (by omega) (a := 1) (by have := hb.2.1; omega) (by decide) x (fun M' N' h' => ?_)
    rw [eb]
    show Sim _ ((g2 (n + 9) 3 (nI 1) 1 x (nI (dp + 1)) M').bind fun q => some (q.1 * 2, q.2)) _
    rw [g_above (n + 8) (k := 1) (by decide)]
    exact Sim.map (· * 2) (v_payBond hb h' n (dp + 1) (by omega) (k := 0) (by decide) rfl x)
  · rw [if_neg (by decide), if_pos (by decide)]
    refine v_begin h (n + 10) dp (by omega) (k := 3) (a := 1) (by decide) (by decide) x (fun M' N' h' => ?_)
    show Sim _ ((g2 (n + 9) 3 (nI 3) 1 x (nI (dp + 1)) M').bind fun q => some (x - q.1, q.2)) _
    rw [g_above (n + 8) (k := 3) (by decide)]
    exact Sim.map (x - ·) (v_payBond hb h' n (dp + 1) (by omega) (k := 0) (by decide) rfl x)
  · have e1 : ¬ (nI κ = 1 ∨ nI κ = 2) := by rcases e with rfl | rfl | rfl <;> decide
    have e3 : ¬ nI κ = 3 := by rcases e with rfl | rfl | rfl <;> decide
    rw [if_neg e1, if_neg e3]
    exact v_payBond hb h (n + 3) dp (by omega) (by have := hb.2.1; omega) (by rcases e with rfl | rfl | rfl <;> rfl) x
theorem v_endBond (hb : VB M0 N0 b κ s) {M N : Mem} (h : VR M0 N0 M N) (n dp : Nat) (hdp : dp ≤ 40) {k : Nat} (hk : k < 7) (hbd : bdy k 2 = 12) (x : Int32) : Sim (VR M0 N0) (g2 (n + 2) 1 (nI k) 2 x (nI dp) M) (mK_endsBond (nI b) x N) := by
  unfold mK_endsBond
  rw [← hbd]
  refine v_begin h (n + 1) dp hdp (a := 2) hk (by decide) x (fun M' N' h' => ?_)
  rw [hbd]
  show Sim _ (some (x * 2 - M' 21 0 0 3, M')) _
  rw [hb.m3 h']
  exact Sim.ret h'
theorem v_endContract (hb : VB M0 N0 b κ s) {M N : Mem} (h : VR M0 N0 M N) (n dp : Nat) (hdp : dp ≤ 30) (x : Int32) : Sim (VR M0 N0) (g2 (n + 5) 1 (nI 1) 2 x (nI dp) M) (mK_endsContract (nI b) x N) := by
  unfold mK_endsContract
  simp only [bindE]
  refine v_begin h (n + 4) dp (by omega) (k := 1) (a := 2) (by decide) (by decide) x (fun M' N' h' => ?_)
  show Sim _ ((g2 (n + 3) 3 (nI 1) 2 (x - 1) (nI (dp + 1)) M').bind fun q => some (q.1, q.2)) _
  rw [g_above (n + 2) (k := 1) (by decide), bindE]
  exact v_endBond hb h' n (dp + 1) (by omega) (k := 0) (by decide) rfl _
theorem v_ends (hb : VB M0 N0 b κ s) {M N : Mem} (h : VR M0 N0 M N) (n dp : Nat) (hdp : dp ≤ 10) (x : Int32) : Sim (VR M0 N0) (g2 (n + 14) 1 (nI κ) 2 x (nI dp) M) (mK_endsOf (nI b) x N) := by
  unfold mK_endsOf
  have h24 := hb.1
  simp only [K_bond_0 h24, Option.bind_some, hb.k0 h, bindE]
  rcases (by have := hb.2.1; omega : κ = 1 ∨ κ = 2 ∨ κ = 5 ∨ κ = 3 ∨ κ = 4 ∨ κ = 6) with rfl | rfl | rfl | e
  · rw [if_pos (by decide)]
    exact v_endContract hb h (n + 9) dp (by omega) x
  · rw [if_neg (by decide), if_pos (by decide)]
    refine v_begin h (n + 13) dp (by omega) (k := 2) (a := 2) (by decide) (by decide) x (fun M' N' h' => ?_)
    show Sim _ ((g2 (n + 12) 3 (nI 2) 2 x (nI (dp + 1)) M').bind fun q9 => (g2 (n + 12) 0 0 x (nI (dp + 1)) 0 q9.2).bind fun q10 => some (q9.1 + q10.1, q10.2)) _
    rw [g_above (n + 11) (k := 2) (by decide)]
    refine Sim.bind (v_endContract hb h' (n + 6) (dp + 1) (by omega) x) (fun r M2 N2 h2 => ?_)
    show Sim _ ((g2 (n + 12) 0 0 x (nI (dp + 1)) 0 M2).bind fun q10 => some (r + q10.1, q10.2)) _
    rw [g_own, hb.m2 h2]
    exact Sim.map (r + ·) (v_binds hb h2 (n + 6) (dp + 1) (by omega) x)
  · rw [if_neg (by decide), if_neg (by decide), if_neg (by decide), if_neg (by decide), if_pos (by decide)]
    refine v_begin h (n + 13) dp (by omega) (k := 5) (a := 2) (by decide) (by decide) x (fun M' N' h' => ?_)
    show Sim _ ((g2 (n + 12) 0 1 x (nI (dp + 1)) 0 M').bind fun q3 => (g2 (n + 12) 3 (nI 5) 2 x (nI (dp + 1)) q3.2).bind fun q4 => some (q3.1 - q4.1, q4.2)) _
    rw [g_own, hb.m2 h']
    refine Sim.bind (v_pays hb h' n (dp + 1) (by omega) x) (fun r M2 N2 h2 => ?_)
    show Sim _ ((g2 (n + 12) 3 (nI 5) 2 x (nI (dp + 1)) M2).bind fun q4 => some (r - q4.1, q4.2)) _
    rw [g_above (n + 11) (k := 5) (by decide)]
    exact Sim.map (r - ·) (v_endBond hb h2 (n + 9) (dp + 1) (by omega) (k := 0) (by decide) rfl x)
  · have key := v_endBond hb h (n + 12) dp (by omega) (k := κ) (by have := hb.2.1; omega) (by rcases e with rfl | rfl | rfl <;> rfl) x
    rcases e with rfl | rfl | rfl
    · rw [if_neg (by decide), if_neg (by decide), if_pos (by decide)]; exact key
    · rw [if_neg (by decide), if_neg (by decide), if_neg (by decide), if_pos (by decide)]; exact key
    · rw [if_neg (by decide), if_neg (by decide), if_neg (by decide), if_neg (by decide), if_neg (by decide)]; exact key
theorem v_tellBond (hb : VB M0 N0 b κ s) {M N : Mem} (h : VR M0 N0 M N) (n dp : Nat) (hdp : dp ≤ 8) {k : Nat} (hk : k < 7) (hbd : bdy k 3 = 13) (x : Int32) : Sim (VR M0 N0) (g2 (n + 17) 1 (nI k) 3 x (nI dp) M) (mK_tellsBond (nI b) x N) := by
  unfold mK_tellsBond
  rw [← hbd]
  refine v_begin h (n + 16) dp (by omega) (a := 3) hk (by decide) x (fun M' N' h' => ?_)
  rw [hbd]
  show Sim _ ((g2 (n + 15) 0 1 x (nI (dp + 1)) 0 M').bind fun q13 => (g2 (n + 15) 0 2 x (nI (dp + 1)) 0 q13.2).bind fun q14 => some (q13.1 ^^^ q14.1, q14.2)) _
  rw [g_own, hb.m2 h']
  refine Sim.bind (v_pays hb h' (n + 3) (dp + 1) (by omega) x) (fun r M2 N2 h2 => ?_)
  show Sim _ ((g2 (n + 15) 0 2 x (nI (dp + 1)) 0 M2).bind fun q14 => some (r ^^^ q14.1, q14.2)) _
  rw [g_own, hb.m2 h2]
  exact Sim.map (r ^^^ ·) (v_ends hb h2 n (dp + 1) (by omega) x)
theorem v_tells (hb : VB M0 N0 b κ s) {M N : Mem} (h : VR M0 N0 M N) (n dp : Nat) (hdp : dp ≤ 5) (x : Int32) : Sim (VR M0 N0) (g2 (n + 20) 1 (nI κ) 3 x (nI dp) M) (mK_tellsOf (nI b) x N) := by
  unfold mK_tellsOf
  have h24 := hb.1
  simp only [K_bond_0 h24, Option.bind_some, hb.k0 h, bindE]
  rcases (by have := hb.2.1; omega : κ = 4 ∨ κ = 6 ∨ κ = 1 ∨ κ = 2 ∨ κ = 3 ∨ κ = 5) with rfl | rfl | e
  · rw [if_pos (by decide)]
    refine v_begin h (n + 19) dp (by omega) (k := 4) (a := 3) (by decide) (by decide) x (fun M' N' h' => ?_)
    show Sim _ ((g2 (n + 18) 3 (nI 4) 3 x (nI (dp + 1)) M').bind fun q => some (q.1 - 1, q.2)) _
    rw [g_above (n + 17) (k := 4) (by decide)]
    exact Sim.map (· - 1) (v_tellBond hb h' n (dp + 1) (by omega) (k := 0) (by decide) rfl x)
  · rw [if_neg (by decide), if_pos (by decide)]
    refine v_begin h (n + 19) dp (by omega) (k := 6) (a := 3) (by decide) (by decide) x (fun M' N' h' => ?_)
    show Sim _ ((g2 (n + 18) 0 2 x (nI (dp + 1)) 0 M').bind fun q1 => (g2 (n + 18) 3 (nI 6) 3 (x + 1) (nI (dp + 1)) q1.2).bind fun q2 => some (q1.1 + q2.1, q2.2)) _
    rw [g_own, hb.m2 h']
    refine Sim.bind (v_ends hb h' (n + 3) (dp + 1) (by omega) x) (fun r M2 N2 h2 => ?_)
    show Sim _ ((g2 (n + 18) 3 (nI 6) 3 (x + 1) (nI (dp + 1)) M2).bind fun q2 => some (r + q2.1, q2.2)) _
    rw [g_above (n + 17) (k := 6) (by decide)]
    exact Sim.map (r + ·) (v_tellBond hb h2 n (dp + 1) (by omega) (k := 0) (by decide) rfl _)
  · have e4 : ¬ nI κ = 4 := by rcases e with rfl | rfl | rfl | rfl <;> decide
    have e6 : ¬ nI κ = 6 := by rcases e with rfl | rfl | rfl | rfl <;> decide
    rw [if_neg e4, if_neg e6]
    exact v_tellBond hb h (n + 3) dp (by omega) (by have := hb.2.1; omega) (by rcases e with rfl | rfl | rfl | rfl <;> rfl) x
end Voice
theorem s_voice {B : Nat} {M N : Mem} (h : Rel B M N) (x1 x2 x3 : Int32) : Sim (Rel (B + 1)) (mF_voice x1 x2 x3 M) (mK_voice x1 x2 x3 N) := by
  unfold mF_voice mK_voice mV_speak xV_own
  simp only [F_isBond_eq h.1.c, K_isBond_eq, F_within_eq, K_in_eq, Option.bind_some, bI_ite, bindE]
  refine Sim.ite (fun hp => ?_) (fun _ => Sim.f1 h)
  refine Sim.ite (fun hq => ?_) (fun _ => Sim.f1 h)
  obtain ⟨b, hb, rfl⟩ := h.1.c.in5 hp
  have b5 := h.1.c.b5
  obtain ⟨q1, ⟨⟨κ, hκ, eκ⟩, hne⟩, -⟩ := h.1.b b hb
  have q10 : M 15 0 b 0 = N 41 0 0 (1056 + 14 * b) := q1 0 (by decide)
  have κ0 : 1 ≤ κ := by
    rcases Nat.eq_zero_or_pos κ with e | e
    · subst e
      exact absurd eκ hne
    · exact e
  rw [ixx_nI (by omega) (by decide), q10, q1 4 (by decide), eκ, g_own]
  generalize hM4 : up (up (up (up M 21 0 0 2 (nI κ)) 21 0 0 3 (nI b)) 21 0 0 4 (N 41 0 0 (1056 + 14 * b + 4))) 21 0 0 1 0 = M4
  generalize hN4 : up N 40 0 0 22 0 = N4
  have o1 : ∀ r w i k, ¬ (r = 21) → M4 r w i k = M r w i k := fun r w i k q => by rw [← hM4, up_ne (by omega), up_ne (by omega), up_ne (by omega), up_ne (by omega)]
  have o2 : ∀ r w i k, ¬ (r = 40 ∧ k = 22) → N4 r w i k = N r w i k := fun r w i k q => by rw [← hN4, up_ne (by omega)]
  have vb : VB M4 N4 b κ (N 41 0 0 (1056 + 14 * b + 4)) := by
    refine ⟨by omega, ⟨κ0, hκ⟩, ?_, ?_, ?_, ?_, ?_⟩
    · rw [← hM4, up_ne (by omega), up_ne (by omega), up_ne (by omega), up_eq]
    · rw [← hM4, up_ne (by omega), up_ne (by omega), up_eq]
    · rw [← hM4, up_ne (by omega), up_eq]
    · rw [o2 _ _ _ _ (by omega)]; exact eκ
    · rw [o2 _ _ _ _ (by omega)]
  have vr : VR M4 N4 M4 N4 := ⟨fun _ _ _ _ _ _ => rfl, fun _ _ _ _ _ _ => rfl, 0, by omega, by rw [← hM4, up_eq]; rfl, by rw [← hN4, up_eq]; rfl, fun i hi => by omega⟩
  have fin : ∀ {a c}, Sim (VR M4 N4) a c → Sim (Rel (B + 1)) a c := by
    rintro a c ⟨r, M', N', rfl, rfl, z1, z2, n, hn, e1, e2, e3⟩
    refine Sim.ret (h.rest ?_ (fun r w i k q => ?_) (fun r k q => ?_))
    · obtain ⟨y1, y2, y3, y4⟩ := h.2.2
      refine ⟨?_, fun k hk => ?_, fun s hs => ?_, ?_, ?_, fun i hi => ?_⟩
      · rw [z1 _ _ _ _ (by decide) (by omega), z2 _ _ _ _ (by decide) (by omega), o1 _ _ _ _ (by omega), o2 _ _ _ _ (by omega)]; exact y1
      · rw [z1 _ _ _ _ (by decide) (by omega), z2 _ _ _ _ (by decide) (by omega), o1 _ _ _ _ (by omega), o2 _ _ _ _ (by omega)]; exact y2 k hk
      · obtain ⟨w1, w2, w3, w4⟩ := y3 s hs
        rw [z1 19 _ _ _ (by decide) (by omega), z1 19 _ _ _ (by decide) (by omega), z2 64 _ _ _ (by decide) (by omega), z2 65 _ _ _ (by decide) (by omega), o1 19 _ _ _ (by omega), o1 19 _ _ _ (by omega), o2 64 _ _ _ (by omega), o2 65 _ _ _ (by omega)]
        refine ⟨w1, w2, w3, fun i hi => ?_⟩
        rw [z1 _ _ _ _ (by decide) (by omega), z2 _ _ _ _ (by decide) (by omega), o1 _ _ _ _ (by omega), o2 _ _ _ _ (by omega)]; exact w4 i hi
      · rw [e1, e2]
      · rw [e2]; exact ⟨n, by omega, rfl⟩
      · rw [cn_nI (f := N' 40 0 0) e2 (by omega)] at hi
        exact e3 i hi
    · rw [z1 _ _ _ _ (by omega) (by omega), o1 _ _ _ _ (by omega)]
    · rw [z2 _ _ _ _ (by omega) (by omega), o2 _ _ _ _ (by omega)]
  rw [vb.m2 vr]
  obtain ⟨a, ha, e⟩ := in_lit0 (b := 3) (by decide) hq
  rcases (by omega : a = 0 ∨ a = 1 ∨ a = 2 ∨ a = 3) with rfl | rfl | rfl | rfl
  · have e : x2 = 0 := e
    subst e
    rw [if_pos rfl]
    exact fin (v_binds vb vr 54 0 (by omega) x3)
  · have e : x2 = 1 := e
    subst e
    rw [if_neg (by decide), if_pos rfl]
    exact fin (v_pays vb vr 48 0 (by omega) x3)
  · have e : x2 = 2 := e
    subst e
    rw [if_neg (by decide), if_neg (by decide), if_pos rfl]
    exact fin (v_ends vb vr 45 0 (by omega) x3)
  · have e : x2 = 3 := e
    subst e
    rw [if_neg (by decide), if_neg (by decide), if_neg (by decide)]
    exact fin (v_tells vb vr 39 0 (by omega) x3)
