/-! ===== the reference's reader, step by step ===== -/
/-- it ends with a fault at a place -/
def GE (N0 : Mem) (u : Int32) (m : Nat) (x : Int32) (N : Mem) (q : Nat) : Prop := ∃ N', mK_reads_17 m u x N = some (0, N') ∧ Fr N0 N' ∧ N' 40 0 0 12 = nI q
def YStp (r b : Nat) (W : List Nat) : Prop := r ≤ rk b → rk b ≤ 5 → rk b = 3 ∧ tsd W = true
section Steps
variable {N0 N : Mem} {n : Nat} {sg : Nat → Nat} {a : List Int32} {W : List Nat} {p : Nat}
theorem K_op (hC : YC N0 n sg) {D : List Nat} (h : YS N0 N a (D ++ W) p) {r : Nat} (hr : rk (sg p) = r) (h1 : 1 ≤ r) (h5 : r ≤ 5) (hp : p < n) (hD : ∀ b ∈ D, r ≤ rk b) (hl : lowH r W) (ht : r = 3 → tsd (D ++ W) = false) (hb : a.length + (D ++ W).length ≤ p) (m : Nat) (u : Int32) : ∃ N', mK_reads_17 (m + 1) u 0 N = mK_reads_17 m u 1 N' ∧ YS N0 N' (pops D a) (sg p :: W) (p + 1) := by
  have n50 := hC.2.1
  have hlt := hC.lt p
  have hA := rk_all ⟨sg p, hlt⟩
  have hB := bv_all ⟨sg p, hlt⟩
  have hX := hA.2.2.2.2.2.2.2 (by show 1 ≤ rk (sg p); omega)
  have x1 : sg p < 256 := hX.1
  have x2 : sg p ≠ 41 := hX.2.2.1
  have hlen : (D ++ W).length = D.length + W.length := List.length_append
  obtain ⟨N1, e1, k1⟩ := K_settles (r := r) (by omega) hl D N a fuel h hD (by omega) (by unfold fuel; omega)
  have e1 : mK_settles (nI r) N = some N1 := e1
  refine ⟨kPush N1 W.length (bv (sg p)), ?_, k1.push x1⟩
  show mK_reads_17b (mK_reads_17 m) (mK_reads_136 (mK_reads_17 m)) u 0 N = _
  unfold mK_reads_17b
  rw [K_bt hC h (by omega)]
  simp only [Option.bind_some, if_true]
  rw [if_neg (c := bv (sg p) < 0) (fun q => by have := hB.2.2.2.2.1.mp q; have : sg p = 256 := this; omega), if_neg (c := bv (sg p) = 41) (fun q => x2 (hB.2.2.2.1.mp q))]
  unfold mK_reads_136 mK_reads_136b
  rw [K_rankI, rk_bv hlt, hr]
  simp only [Option.bind_some]
  rw [if_neg (c := nI r = 0) (nI_ne0 (by omega) (by omega)), if_neg (c := nI r = 6) (fun q => by have := (nI_eq (b := 6) (by omega) (by decide)).mp q; omega)]
  by_cases z : r = 3
  · rw [if_pos (c := nI r = 3) (by rw [z]; rfl), K_tested h (by omega)]
    simp only [Option.bind_some]
    rw [if_pos (c := bI (tsd (D ++ W) = true) = 0) (bI_0.mpr (by rw [ht z]; decide)), e1]
    simp only [Option.bind_some]
    rw [k1.2.2.1, ixx_nI (by omega) (by decide)]
    rfl
  · rw [if_neg (c := nI r = 3) (fun q => z ((nI_eq (b := 3) (by omega) (by decide)).mp q)), e1]
    simp only [Option.bind_some]
    rw [k1.2.2.1, ixx_nI (by omega) (by decide)]
    rfl
theorem YS.pop {b : Nat} (h : YS N0 N a (b :: W) p) : YS N0 (up (up N 40 0 0 11 (N 40 0 0 11 - 1)) 40 0 0 12 (up N 40 0 0 11 (N 40 0 0 11 - 1) 40 0 0 12 + 1)) a W (p + 1) := by
  have e : N 40 0 0 11 - 1 = nI W.length := by
    have h3 : N 40 0 0 11 = nI (W.length + 1) := h.2.2.1
    rw [h3, nI_pred]
  rw [e]
  exact h.down.next
theorem K_close (hC : YC N0 n sg) {D E : List Nat} (h : YS N0 N a (D ++ 40 :: (E ++ W)) p) (hs : sg p = 41) (hD : ∀ b ∈ D, 1 ≤ rk b) (hE : ∀ b ∈ E, b = 33) (hl : lowH 6 W) (hb : a.length + (D ++ 40 :: (E ++ W)).length ≤ p) (m : Nat) (u : Int32) : ∃ N', mK_reads_17 (m + 1) u 0 N = mK_reads_17 m u 0 N' ∧ YS N0 N' (pops E (pops D a)) W (p + 1) := by
  have n50 := hC.2.1
  have hp : p < n := hC.inn (by rw [hs]; decide)
  have hlen : (D ++ 40 :: (E ++ W)).length = D.length + (E.length + W.length + 1) := by simp
  have hlen2 : (E ++ W).length = E.length + W.length := List.length_append
  have r40 : rk 40 < 1 := by decide
  obtain ⟨N1, e1, k1⟩ := K_settles (r := 1) (W := 40 :: (E ++ W)) (by omega) (by intro b W' q; cases q; exact r40) D N a fuel h hD (by omega) (by unfold fuel; omega)
  have e1 : mK_settles 1 N = some N1 := e1
  have k2 := k1.pop
  obtain ⟨N3, e3, k3⟩ := K_settles (r := 6) (by omega) hl E _ (pops D a) fuel k2 (fun b hb => by rw [hE b hb]; decide) (by rw [pops_len]; omega) (by unfold fuel; omega)
  have e3 : mK_settles 6 (up (up N1 40 0 0 11 (N1 40 0 0 11 - 1)) 40 0 0 12 (up N1 40 0 0 11 (N1 40 0 0 11 - 1) 40 0 0 12 + 1)) = some N3 := e3
  refine ⟨N3, ?_, k3⟩
  show mK_reads_17b (mK_reads_17 m) (mK_reads_136 (mK_reads_17 m)) u 0 N = _
  unfold mK_reads_17b
  rw [K_bt hC h (by omega), hs]
  simp only [Option.bind_some, if_true]
  rw [if_neg (c := bv 41 < 0) (by decide), if_pos (c := bv 41 = 41) (by decide), K_hasOpen h (by omega)]
  simp only [Option.bind_some]
  rw [if_neg (c := bI (40 ∈ D ++ 40 :: (E ++ W)) = 0) (fun q => bI_0.mp q (by simp)), e1]
  simp only [Option.bind_some]
  rw [e3]
  rfl
theorem K_stop (hC : YC N0 n sg) (h : YS N0 N a W p) (hp : p ≤ n) (hW : W.length ≤ 50) (h1 : sg p = 41 → ¬ 40 ∈ W) (h2 : sg p = 256 → 40 ∈ W) (h3 : YStp 1 (sg p) W) (m : Nat) (u : Int32) : GE N0 u (m + 1) 0 N p := by
  have hlt := hC.lt p
  have hA := rk_all ⟨sg p, hlt⟩
  have hB := bv_all ⟨sg p, hlt⟩
  have r6 := rk_le hlt
  refine ⟨N, ?_, h.1, h.2.2.2.1⟩
  have f136 : mK_reads_136 (mK_reads_17 m) u (bv (sg p)) N = some (0, N) := by
    unfold mK_reads_136 mK_reads_136b
    rw [K_rankI, rk_bv hlt]
    simp only [Option.bind_some]
    by_cases z0 : rk (sg p) = 0
    · rw [z0]
      rfl
    rw [if_neg (c := nI (rk (sg p)) = 0) (nI_ne0 (by omega) (by omega))]
    by_cases z6 : rk (sg p) = 6
    · rw [z6]
      rfl
    rw [if_neg (c := nI (rk (sg p)) = 6) (fun q => z6 ((nI_eq (b := 6) (by omega) (by decide)).mp q))]
    obtain ⟨z3, zt⟩ := h3 (by omega) (by omega)
    rw [if_pos (c := nI (rk (sg p)) = 3) (by rw [z3]; rfl), K_tested h hW]
    simp only [Option.bind_some]
    rw [if_neg (c := bI (tsd W = true) = 0) (fun q => bI_0.mp q zt)]
  show mK_reads_17b (mK_reads_17 m) (mK_reads_136 (mK_reads_17 m)) u 0 N = _
  unfold mK_reads_17b
  rw [K_bt hC h hp]
  simp only [Option.bind_some, if_true]
  by_cases ze : sg p = 256
  · rw [if_pos (c := bv (sg p) < 0) (hB.2.2.2.2.1.mpr ze), K_hasOpen h hW]
    simp only [Option.bind_some]
    rw [if_neg (c := bI (40 ∈ W) = 0) (fun q => bI_0.mp q (h2 ze))]
  rw [if_neg (c := bv (sg p) < 0) (fun q => ze (hB.2.2.2.2.1.mp q))]
  by_cases zc : sg p = 41
  · rw [if_pos (c := bv (sg p) = 41) (hB.2.2.2.1.mpr zc), K_hasOpen h hW]
    simp only [Option.bind_some]
    rw [if_pos (c := bI (40 ∈ W) = 0) (bI_0.mpr (h1 zc))]
    exact f136
  rw [if_neg (c := bv (sg p) = 41) (fun q => zc (hB.2.2.2.1.mp q))]
  exact f136
theorem K_end (hC : YC N0 n sg) (h : YS N0 N a W p) (hp : p ≤ n) (hs : sg p = 256) (hW : ∀ b ∈ W, 1 ≤ rk b) (hb : a.length + W.length ≤ 50) (m : Nat) (u : Int32) : ∃ N', mK_reads_17 (m + 1) u 0 N = some (1, N') ∧ YS N0 N' (pops W a) [] p := by
  have no : ¬ 40 ∈ W := fun q => by have := hW 40 q; exact absurd this (by decide)
  have h' : YS N0 N a (W ++ []) p := by rw [List.append_nil]; exact h
  obtain ⟨N1, e1, k1⟩ := K_settles (r := 1) (W := []) (by omega) (by intro b W' q; cases q) W N a fuel h' hW (by rw [List.append_nil]; exact hb) (by unfold fuel; omega)
  have e1 : mK_settles 1 N = some N1 := e1
  refine ⟨N1, ?_, k1⟩
  show mK_reads_17b (mK_reads_17 m) (mK_reads_136 (mK_reads_17 m)) u 0 N = _
  unfold mK_reads_17b
  rw [K_bt hC h hp, hs]
  simp only [Option.bind_some, if_true]
  rw [if_pos (c := bv 256 < 0) (by decide), K_hasOpen h (by omega)]
  simp only [Option.bind_some]
  rw [if_pos (c := bI (40 ∈ W) = 0) (bI_0.mpr no), e1]
  rfl
/-- one that opens -/
theorem R_open (hC : YC N0 n sg) (h : YS N0 N a W p) (hp : p ≤ n) (hW : W.length < 50) (hs : sg p = 33 ∨ sg p = 40) (u : Int32) : mK_readsOne u N = if cO W = 5 then some (0, N) else some (2, kPush N W.length (bv (sg p))) := by
  have hlt := hC.lt p
  have hB := bv_all ⟨sg p, hlt⟩
  have hc : cO W ≤ W.length := by
    have : ∀ V : List Nat, cO V ≤ V.length := by
      intro V
      induction V with
      | nil => exact Nat.le_refl _
      | cons b V ih =>
        rw [cO_c]
        show _ ≤ V.length + 1
        split <;> omega
    exact this W
  have c5 : (nI (cO W) = (5 : Int32)) = (cO W = 5) := nI_inj (b := 5) (by omega) (by decide)
  unfold mK_readsOne mK_readsOneb
  rw [K_bt hC h hp]
  simp only [Option.bind_some]
  rw [K_openMany h (by omega)]
  simp only [Option.bind_some, c5]
  rw [h.2.2.1]
  simp only [ixx_nI hW (show 50 < 2 ^ 31 by decide)]
  by_cases z : sg p = 33
  · rw [if_pos (c := bv (sg p) = 33) (hB.2.1.mpr z)]
    rfl
  · rw [if_neg (c := bv (sg p) = 33) (fun q => z (hB.2.1.mp q)), if_pos (c := bv (sg p) = 40) (hB.2.2.1.mpr (hs.resolve_left z))]
    rfl
theorem R_name (hC : YC N0 n sg) (h : YS N0 N a W p) (ha : a.length < 50) {use : Nat} (hu : use < 4) (hs : nmN use (sg p) ≠ 0) : ∃ N', mK_readsOne (nI use) N = some (1, N') ∧ YS N0 N' (-nI (nmN use (sg p)) :: a) W (p + 1) := by
  have hlt := hC.lt p
  have hB := bv_all ⟨sg p, hlt⟩
  have hN := nm_all ⟨use, hu⟩ ⟨sg p, hlt⟩
  have hD := nm_dig ⟨use, hu⟩ ⟨sg p, hlt⟩ hs
  have hp : p < n := hC.inn hD.2.2.1
  have h3 := nmN_le use (sg p)
  have hN : nmI (nI use) (bv (sg p)) = nI (nmN use (sg p)) := hN
  obtain ⟨N1, e1, k1⟩ := h.lays ha (-nI (nmN use (sg p)))
  refine ⟨_, ?_, k1.next⟩
  unfold mK_readsOne mK_readsOneb
  rw [K_bt hC h (by omega)]
  simp only [Option.bind_some]
  rw [if_neg (c := bv (sg p) = 33) (fun q => hD.1 (hB.2.1.mp q)), if_neg (c := bv (sg p) = 40) (fun q => hD.2.1 (hB.2.2.1.mp q)), K_nameI, hN]
  simp only [Option.bind_some]
  rw [if_neg (c := nI (nmN use (sg p)) ≤ 0) (nI_nle (by omega) (by omega)), K_nameI, hN]
  simp only [Option.bind_some]
  rw [e1]
  rfl
def dg (b : Nat) : Prop := 48 ≤ b ∧ b ≤ 57
theorem R_digs (hC : YC N0 n sg) {fr : Nat} (ha : a.length < 50) : ∀ (k d m v p : Nat) (N : Mem), YS N0 N a W p → p = fr + d → p ≤ n → d + k = 4 → k < m → v < 10 ^ d → ∃ (x : Int32) (N' : Mem), mK_readsOne_101 m (nI v) (nI fr) N = some (x, N') ∧ YS N0 N' (nI (pNum sg k v p).1 :: a) W (pNum sg k v p).2 ∧ p ≤ (pNum sg k v p).2 ∧ (pNum sg k v p).2 ≤ n ∧ ((x = 1 ∧ fr < (pNum sg k v p).2 ∧ ¬ dg (sg (pNum sg k v p).2)) ∨ (x = 0 ∧ (dg (sg (pNum sg k v p).2) ∨ (pNum sg k v p).2 = fr))) := by
  have n50 := hC.2.1
  have hend : ∀ (v p : Nat) (N : Mem), YS N0 N a W p → p ≤ n → fr ≤ p → ∃ (x : Int32) (N' : Mem), ((mK_lays (nI v) N).bind fun q3 => if (q3 40 0 0 12) ≤ nI fr then some (0, q3) else (mK_byteAt (q3 40 0 0 12) q3).bind fun q4 => (mK_isDigit q4.1 q4.2).bind fun q5 => if q5.1 = 0 then some (1, q5.2) else some (0, q5.2)) = some (x, N') ∧ YS N0 N' (nI v :: a) W p ∧ ((x = 1 ∧ fr < p ∧ ¬ dg (sg p)) ∨ (x = 0 ∧ (dg (sg p) ∨ p = fr))) := by
    intro v p N h hp hf
    have hB := bv_all ⟨sg p, hC.lt p⟩
    have hdg : dgI (bv (sg p)) = if 48 ≤ sg p ∧ sg p ≤ 57 then 1 else 0 := hB.2.2.2.2.2
    obtain ⟨N1, e1, k1⟩ := h.lays ha (nI v)
    rw [e1]
    simp only [Option.bind_some]
    rw [K_bt hC k1 hp, k1.2.2.2.1]
    simp only [Option.bind_some, K_digI, hdg]
    by_cases z : p ≤ fr
    · refine ⟨0, N1, ?_, k1, .inr ⟨rfl, .inr (by omega)⟩⟩
      rw [if_pos (nI_le z (by omega))]
    · rw [if_neg (nI_ge (by omega) (by omega))]
      by_cases y : 48 ≤ sg p ∧ sg p ≤ 57
      · refine ⟨0, N1, ?_, k1, .inr ⟨rfl, .inl y⟩⟩
        rw [if_pos y]
        exact if_neg (by decide)
      · refine ⟨1, N1, ?_, k1, .inl ⟨rfl, by omega, y⟩⟩
        rw [if_neg y]
        exact if_pos rfl
  intro k
  induction k with
  | zero =>
    intro d m v p N h hfr hp hd hm hv
    obtain ⟨m, rfl⟩ : ∃ j, m = j + 1 := ⟨m - 1, by omega⟩
    obtain ⟨x, N', e, k1, k2⟩ := hend v p N h hp (by omega)
    refine ⟨x, N', ?_, k1, Nat.le_refl _, hp, k2⟩
    show mK_readsOne_101b (mK_readsOne_101 m) (nI v) (nI fr) N = _
    unfold mK_readsOne_101b
    rw [K_bt hC h hp]
    simp only [Option.bind_some, K_digI]
    have e4 : ¬ N 40 0 0 12 - nI fr < 4 := by
      rw [h.2.2.2.1, show p = fr + 4 by omega, pk_sub (by omega)]
      exact nI_nlt (b := 4) (by omega) (by omega)
    rw [if_neg e4]
    by_cases y : dgI (bv (sg p)) = 0
    · rw [if_pos y]
      simp only [K_digI, Option.bind_some] at e
      exact e
    · rw [if_neg y]
      simp only [K_digI, Option.bind_some] at e
      exact e
  | succ k ih =>
    intro d m v p N h hfr hp hd hm hv
    obtain ⟨m, rfl⟩ : ∃ j, m = j + 1 := ⟨m - 1, by omega⟩
    have hlt := hC.lt p
    have hB := bv_all ⟨sg p, hlt⟩
    have hdg : dgI (bv (sg p)) = if 48 ≤ sg p ∧ sg p ≤ 57 then 1 else 0 := hB.2.2.2.2.2
    have hp4 : 10 ^ d ≤ 1000 := by
      rcases (by omega : d = 0 ∨ d = 1 ∨ d = 2 ∨ d = 3) with rfl | rfl | rfl | rfl <;> decide
    rw [pNum_s]
    by_cases y : 48 ≤ sg p ∧ sg p ≤ 57
    · rw [if_pos y]
      have hpn : p < n := hC.inn (by omega)
      obtain ⟨x, N', e, k1, k2, k3, k4⟩ := ih (d + 1) m (v * 10 + sg p - 48) (p + 1) _ h.next (by omega) (by omega) (by omega) (by omega) (by rw [Nat.pow_succ]; omega)
      refine ⟨x, N', ?_, k1, by omega, k3, k4⟩
      show mK_readsOne_101b (mK_readsOne_101 m) (nI v) (nI fr) N = _
      unfold mK_readsOne_101b
      have e4 : N 40 0 0 12 - nI fr < 4 := by
        rw [h.2.2.2.1, hfr, pk_sub (by omega)]
        exact nI_lt (b := 4) (by omega) (by decide)
      have ev : 10 * nI v + bv (sg p) - 48 = nI (v * 10 + sg p - 48) := by
        have e10 : 10 * nI v = nI (10 * v) := pk_mul 10 v
        rw [bv_nI (by omega), e10, nI_add, Nat.mul_comm 10 v]
        exact pk_sub (b := 48) (by omega)
      rw [K_bt hC h hp]
      simp only [Option.bind_some, K_digI, hdg]
      rw [if_pos y, if_neg (c := (1 : Int32) = 0) (by decide), if_pos e4, K_bt hC h hp]
      simp only [Option.bind_some]
      rw [ev]
      exact e
    · rw [if_neg y]
      obtain ⟨x, N', e, k1, k2⟩ := hend v p N h hp (by omega)
      refine ⟨x, N', ?_, k1, Nat.le_refl _, hp, k2⟩
      show mK_readsOne_101b (mK_readsOne_101 m) (nI v) (nI fr) N = _
      unfold mK_readsOne_101b
      rw [K_bt hC h hp]
      simp only [Option.bind_some, K_digI, hdg]
      rw [if_neg y, if_pos (c := (0 : Int32) = 0) rfl]
      simp only [K_digI, Option.bind_some] at e
      exact e
theorem R_num (hC : YC N0 n sg) (h : YS N0 N a W p) (ha : a.length < 50) (hp : p ≤ n) {use : Nat} (hu : use < 4) (h1 : sg p ≠ 33) (h2 : sg p ≠ 40) (hs : nmN use (sg p) = 0) : ∃ (x : Int32) (N' : Mem), mK_readsOne (nI use) N = some (x, N') ∧ YS N0 N' (nI (pNum sg 4 0 p).1 :: a) W (pNum sg 4 0 p).2 ∧ p ≤ (pNum sg 4 0 p).2 ∧ (pNum sg 4 0 p).2 ≤ n ∧ ((x = 1 ∧ p < (pNum sg 4 0 p).2 ∧ ¬ dg (sg (pNum sg 4 0 p).2)) ∨ (x = 0 ∧ (dg (sg (pNum sg 4 0 p).2) ∨ (pNum sg 4 0 p).2 = p))) := by
  have hlt := hC.lt p
  have hB := bv_all ⟨sg p, hlt⟩
  have hN : nmI (nI use) (bv (sg p)) = nI (nmN use (sg p)) := nm_all ⟨use, hu⟩ ⟨sg p, hlt⟩
  obtain ⟨x, N', e, k⟩ := R_digs hC (fr := p) (W := W) ha 4 0 fuel 0 p N h rfl hp (by decide) (by decide) (by decide)
  refine ⟨x, N', ?_, k⟩
  unfold mK_readsOne mK_readsOneb
  rw [K_bt hC h hp]
  simp only [Option.bind_some]
  rw [if_neg (c := bv (sg p) = 33) (fun q => h1 (hB.2.1.mp q)), if_neg (c := bv (sg p) = 40) (fun q => h2 (hB.2.2.1.mp q)), K_nameI, hN, hs]
  simp only [Option.bind_some]
  rw [if_pos (c := nI 0 ≤ 0) (by decide), h.2.2.2.1]
  exact e
end Steps
