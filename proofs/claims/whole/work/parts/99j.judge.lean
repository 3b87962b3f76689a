/-! ===== judge: rows that prove it ===== -/
/-- is one of the rows of the towns above zero -/
def jz (g : Nat → Int32) (C : Nat) : Nat → Nat → Int32
  | 0, _ => 0
  | d + 1, i => if i < C ∨ g i ≤ 0 then jz g C d (i + 1) else 1
theorem jz_s (g : Nat → Int32) (C d i : Nat) : jz g C (d + 1) i = if i < C ∨ g i ≤ 0 then jz g C d (i + 1) else 1 := rfl
theorem jz_skip (g : Nat → Int32) (C T : Nat) : ∀ d i, i + d = C → jz g C (d + T) i = jz g C T C
  | 0, i, h => by
    have e : i = C := h
    rw [e, Nat.zero_add]
  | d + 1, i, h => by
    have e : d + 1 + T = (d + T) + 1 := by omega
    rw [e, jz_s, if_pos (.inl (by omega))]
    exact jz_skip g C T d (i + 1) (by omega)
def js (g : Nat → Int32) : Nat → Nat → Int64 → Int64
  | 0, _, s => s
  | d + 1, i, s => js g d (i + 1) (s + (g i).toInt64)
theorem js_s (g : Nat → Int32) (d i : Nat) (s : Int64) : js g (d + 1) i s = js g d (i + 1) (s + (g i).toInt64) := rfl
def jc1 (g : Nat → Int32) (cs : Nat → Int32) (C c : Nat) : Nat → Nat → Int32
  | 0, _ => 0
  | d + 1, t => if lg_cmp ((g c).toInt64 + (g (C + t)).toInt64) (cs t).toInt64 ≤ 0 then jc1 g cs C c d (t + 1) else 1
theorem jc1_s (g : Nat → Int32) (cs : Nat → Int32) (C c d t : Nat) : jc1 g cs C c (d + 1) t = if lg_cmp ((g c).toInt64 + (g (C + t)).toInt64) (cs t).toInt64 ≤ 0 then jc1 g cs C c d (t + 1) else 1 := rfl
def jc (g : Nat → Int32) (cs : Nat → Nat → Int32) (C T : Nat) : Nat → Nat → Int32
  | 0, _ => 0
  | d + 1, c => if jc1 g (cs c) C c T 0 = 0 then jc g cs C T d (c + 1) else 1
theorem jc_s (g : Nat → Int32) (cs : Nat → Nat → Int32) (C T d c : Nat) : jc g cs C T (d + 1) c = if jc1 g (cs c) C c T 0 = 0 then jc g cs C T d (c + 1) else 1 := rfl
/-- what the class reads -/
def JM (M : Mem) (C T : Nat) (g : Nat → Int32) (cs : Nat → Nat → Int32) : Prop := M 1 0 0 6 = nI C ∧ M 1 0 0 2 = nI T ∧ C ≤ 5 ∧ T ≤ 8 ∧ (∀ j, j < C + T → M 16 0 0 j = g j) ∧ ∀ c t, c < C → t < T → M 8 0 c t = cs c t
/-- what the reference reads -/
def JN (N : Mem) (C T : Nat) (g : Nat → Int32) (cs : Nat → Nat → Int32) : Prop := N 41 0 0 0 = nI T ∧ C ≤ 5 ∧ T ≤ 8 ∧ (∀ j, j < C + T → N 41 0 0 (1482 + j) = g j) ∧ ∀ c t, c < C → t < T → N 41 0 0 (1392 + 8 * c + t) = cs c t
theorem W_townRow_2 {M : Mem} {C T : Nat} {g : Nat → Int32} {cs : Nat → Nat → Int32} (h : JM M C T g cs) : ∀ (d i n : Nat), i + d = T → d < n → mW_townRowAboveZero_2 n 0 (nI i) M = some (jz g C d (C + i), M)
  | 0, i, n, hi, hn => by
    obtain ⟨h1, h2, h3, h4, h5, h6⟩ := h
    obtain ⟨m, rfl⟩ : ∃ m, n = m + 1 := ⟨n - 1, by omega⟩
    show mW_townRowAboveZero_2b (mW_townRowAboveZero_2 m) 0 (nI i) M = _
    unfold mW_townRowAboveZero_2b
    rw [h2, if_neg (nI_nlt (by omega) (by omega))]
    rfl
  | d + 1, i, n, hi, hn => by
    have ih := fun m hm => W_townRow_2 h d (i + 1) m (by omega) hm
    obtain ⟨h1, h2, h3, h4, h5, h6⟩ := h
    obtain ⟨m, rfl⟩ : ∃ m, n = m + 1 := ⟨n - 1, by omega⟩
    show mW_townRowAboveZero_2b (mW_townRowAboveZero_2 m) 0 (nI i) M = _
    unfold mW_townRowAboveZero_2b
    rw [h2, if_pos (nI_lt (by omega) (by omega)), h1, ixx_e (nI_add C i) (by omega) (by decide), h5 (C + i) (by omega), jz_s]
    by_cases z : g (C + i) ≤ 0
    · rw [if_pos z, if_pos (.inr z), nI_1]
      exact ih m (by omega)
    · rw [if_neg z, if_neg (c := C + i < C ∨ g (C + i) ≤ 0) (not_or.mpr ⟨by omega, z⟩)]
theorem W_rowsTogether_4 {M : Mem} {C T : Nat} {g : Nat → Int32} {cs : Nat → Nat → Int32} (h : JM M C T g cs) : ∀ (d i n : Nat) (s : Int64), i + d = C + T → d < n → mW_rowsTogether_4 n 0 s (nI i) M = some (js g d i s, M)
  | 0, i, n, s, hi, hn => by
    obtain ⟨h1, h2, h3, h4, h5, h6⟩ := h
    obtain ⟨m, rfl⟩ : ∃ m, n = m + 1 := ⟨n - 1, by omega⟩
    show mW_rowsTogether_4b (mW_rowsTogether_4 m) 0 s (nI i) M = _
    unfold mW_rowsTogether_4b
    rw [h1, h2, nI_add, if_neg (nI_nlt (by omega) (by omega))]
    rfl
  | d + 1, i, n, s, hi, hn => by
    have ih := fun m s hm => W_rowsTogether_4 h d (i + 1) m s (by omega) hm
    obtain ⟨h1, h2, h3, h4, h5, h6⟩ := h
    obtain ⟨m, rfl⟩ : ∃ m, n = m + 1 := ⟨n - 1, by omega⟩
    show mW_rowsTogether_4b (mW_rowsTogether_4 m) 0 s (nI i) M = _
    unfold mW_rowsTogether_4b
    rw [h1, h2, nI_add, if_pos (nI_lt (by omega) (by omega)), ixx_nI (by omega) (by decide), h5 i (by omega), nI_1, js_s]
    exact ih m _ (by omega)
theorem W_rowsAbove_12 {M : Mem} {C T : Nat} {g : Nat → Int32} {cs : Nat → Nat → Int32} (h : JM M C T g cs) (r2 : Nat → Int32 → Mem → Option (Int32 × Mem)) {c : Nat} (hc : c < C) : ∀ (d t n : Nat), t + d = T → d < n → mW_rowsAboveCost_12 r2 n 0 (nI c) (nI t) M = if jc1 g (cs c) C c d t = 0 then r2 0 (nI (c + 1)) M else some (1, M)
  | 0, t, n, hi, hn => by
    obtain ⟨h1, h2, h3, h4, h5, h6⟩ := h
    obtain ⟨m, rfl⟩ : ∃ m, n = m + 1 := ⟨n - 1, by omega⟩
    show mW_rowsAboveCost_12b r2 (mW_rowsAboveCost_12 r2 m) 0 (nI c) (nI t) M = _
    unfold mW_rowsAboveCost_12b
    rw [h2, if_neg (nI_nlt (by omega) (by omega)), nI_1]
    exact (if_pos rfl).symm
  | d + 1, t, n, hi, hn => by
    have ih := fun m hm => W_rowsAbove_12 h r2 hc d (t + 1) m (by omega) hm
    obtain ⟨h1, h2, h3, h4, h5, h6⟩ := h
    obtain ⟨m, rfl⟩ : ∃ m, n = m + 1 := ⟨n - 1, by omega⟩
    show mW_rowsAboveCost_12b r2 (mW_rowsAboveCost_12 r2 m) 0 (nI c) (nI t) M = _
    unfold mW_rowsAboveCost_12b
    rw [h2, if_pos (nI_lt (by omega) (by omega)), ixx_nI (show c < 20 by omega) (by decide), h1, ixx_e (nI_add C t) (by omega) (by decide), ixx_nI (show c < 5 by omega) (by decide), ixx_nI (show t < 8 by omega) (by decide), h5 c (by omega), h5 (C + t) (by omega), h6 c t hc (by omega), jc1_s]
    by_cases z : lg_cmp ((g c).toInt64 + (g (C + t)).toInt64) (cs c t).toInt64 ≤ 0
    · rw [if_pos z, if_pos z, nI_1]
      exact ih m (by omega)
    · rw [if_neg z, if_neg z, if_neg (by decide)]
theorem W_rowsAbove_2 {M : Mem} {C T : Nat} {g : Nat → Int32} {cs : Nat → Nat → Int32} (h : JM M C T g cs) : ∀ (d c n : Nat), c + d = C → d < n → mW_rowsAboveCost_2 n 0 (nI c) M = some (jc g cs C T d c, M)
  | 0, c, n, hi, hn => by
    obtain ⟨h1, h2, h3, h4, h5, h6⟩ := h
    obtain ⟨m, rfl⟩ : ∃ m, n = m + 1 := ⟨n - 1, by omega⟩
    show mW_rowsAboveCost_2b (mW_rowsAboveCost_12 (mW_rowsAboveCost_2 m) fuel) 0 (nI c) M = _
    unfold mW_rowsAboveCost_2b
    rw [h1, if_neg (nI_nlt (by omega) (by omega))]
    rfl
  | d + 1, c, n, hi, hn => by
    have ih := fun m hm => W_rowsAbove_2 h d (c + 1) m (by omega) hm
    obtain ⟨m, rfl⟩ : ∃ m, n = m + 1 := ⟨n - 1, by omega⟩
    have h12 := W_rowsAbove_12 h (mW_rowsAboveCost_2 m) (show c < C by omega) T 0 fuel (by omega) (by have := h.2.2.2.1; unfold fuel; omega)
    obtain ⟨h1, h2, h3, h4, h5, h6⟩ := h
    show mW_rowsAboveCost_2b (mW_rowsAboveCost_12 (mW_rowsAboveCost_2 m) fuel) 0 (nI c) M = _
    unfold mW_rowsAboveCost_2b
    rw [h1, if_pos (nI_lt (by omega) (by omega)), jc_s]
    refine h12.trans ?_
    by_cases z : jc1 g (cs c) C c T 0 = 0
    · rw [if_pos z, if_pos z]
      exact ih m (by omega)
    · rw [if_neg z, if_neg z]
/-- the end of it: the cheapest -/
def xJ (s : Int64) (N : Mem) : Option (Int32 × Mem) := (mK_findWinter N).bind fun q1 => if (lg_cmp s ((q1 40 0 0 15).toInt64)) = 0 then some (0, q1) else some (4, q1)
theorem K_judge_119 {N : Mem} {C T : Nat} {g : Nat → Int32} {cs : Nat → Nat → Int32} (h : JN N C T g cs) (r2 : Int32 → Int64 → Int32 → Mem → Option (Int32 × Mem)) (s : Int64) {c : Nat} (hc : c < C) : ∀ (d t n : Nat), t + d = T → d < n → mK_judge_119 r2 n (nI C) s (nI c) (nI t) N = if jc1 g (cs c) C c d t = 0 then r2 (nI C) s (nI (c + 1)) N else some (3, N)
  | 0, t, n, hi, hn => by
    obtain ⟨h2, h3, h4, h5, h6⟩ := h
    obtain ⟨m, rfl⟩ : ∃ m, n = m + 1 := ⟨n - 1, by omega⟩
    show mK_judge_119b r2 (mK_judge_119 r2 m) (nI C) s (nI c) (nI t) N = _
    unfold mK_judge_119b
    rw [h2, if_neg (nI_nlt (by omega) (by omega)), nI_1]
    exact (if_pos rfl).symm
  | d + 1, t, n, hi, hn => by
    have ih := fun m hm => K_judge_119 h r2 s hc d (t + 1) m (by omega) hm
    obtain ⟨h2, h3, h4, h5, h6⟩ := h
    obtain ⟨m, rfl⟩ : ∃ m, n = m + 1 := ⟨n - 1, by omega⟩
    show mK_judge_119b r2 (mK_judge_119 r2 m) (nI C) s (nI c) (nI t) N = _
    unfold mK_judge_119b
    have i1 : (1482 : Int32) + nI c = nI (1482 + c) := nI_add 1482 c
    have i2 : (1482 : Int32) + nI C + nI t = nI (1482 + (C + t)) := by
      have e : (1482 : Int32) + nI C = nI (1482 + C) := nI_add 1482 C
      rw [e, nI_add, Nat.add_assoc]
    have i3 : (1392 : Int32) + 8 * nI c + nI t = nI (1392 + 8 * c + t) := ix3 1392 8 c t
    rw [h2, if_pos (nI_lt (by omega) (by omega)), i1, i2, i3, ixx_nI (show 1482 + c < 1502 by omega) (by decide), ixx_nI (show 1482 + (C + t) < 1502 by omega) (by decide), ixx_nI (show 1392 + 8 * c + t < 1502 by omega) (by decide), h5 c (by omega), h5 (C + t) (by omega), h6 c t hc (by omega), jc1_s]
    by_cases z : lg_cmp ((g c).toInt64 + (g (C + t)).toInt64) (cs c t).toInt64 ≤ 0
    · rw [if_pos z, if_pos z, nI_1]
      exact ih m (by omega)
    · rw [if_neg z, if_neg z, if_neg (by decide)]
theorem K_judge_110 {N : Mem} {C T : Nat} {g : Nat → Int32} {cs : Nat → Nat → Int32} (h : JN N C T g cs) (s : Int64) : ∀ (d c n : Nat), c + d = C → d < n → mK_judge_110 n (nI C) s (nI c) N = if jc g cs C T d c = 0 then xJ s N else some (3, N)
  | 0, c, n, hi, hn => by
    obtain ⟨h2, h3, h4, h5, h6⟩ := h
    obtain ⟨m, rfl⟩ : ∃ m, n = m + 1 := ⟨n - 1, by omega⟩
    show mK_judge_110b (mK_judge_119 (mK_judge_110 m) fuel) (nI C) s (nI c) N = _
    unfold mK_judge_110b
    rw [if_neg (nI_nlt (by omega) (by omega))]
    exact (if_pos rfl).symm
  | d + 1, c, n, hi, hn => by
    have ih := fun m hm => K_judge_110 h s d (c + 1) m (by omega) hm
    obtain ⟨m, rfl⟩ : ∃ m, n = m + 1 := ⟨n - 1, by omega⟩
    have h12 := K_judge_119 h (mK_judge_110 m) s (show c < C by omega) T 0 fuel (by omega) (by have := h.2.2.1; unfold fuel; omega)
    obtain ⟨h2, h3, h4, h5, h6⟩ := h
    show mK_judge_110b (mK_judge_119 (mK_judge_110 m) fuel) (nI C) s (nI c) N = _
    unfold mK_judge_110b
    rw [if_pos (nI_lt (by omega) (by omega)), jc_s]
    refine h12.trans ?_
    by_cases z : jc1 g (cs c) C c T 0 = 0
    · rw [if_pos z, if_pos z]
      exact ih m (by omega)
    · rw [if_neg z, if_neg z, if_neg (by decide)]
theorem K_judge_58 {N : Mem} {C T : Nat} {g : Nat → Int32} {cs : Nat → Nat → Int32} (h : JN N C T g cs) : ∀ (d i n : Nat) (s : Int64), i + d = C + T → d < n → mK_judge_58 n (nI (C + T)) (nI C) s (nI i) N = if jz g C d i = 0 then (if jc g cs C T C 0 = 0 then xJ (js g d i s) N else some (3, N)) else some (2, N)
  | 0, i, n, s, hi, hn => by
    have h110 := K_judge_110 h s C 0 fuel (by omega) (by have := h.2.1; unfold fuel; omega)
    obtain ⟨h2, h3, h4, h5, h6⟩ := h
    obtain ⟨m, rfl⟩ : ∃ m, n = m + 1 := ⟨n - 1, by omega⟩
    show mK_judge_58b (mK_judge_58 m) (mK_judge_110 fuel) (nI (C + T)) (nI C) s (nI i) N = _
    unfold mK_judge_58b
    rw [if_neg (nI_nlt (by omega) (by omega))]
    exact h110.trans (if_pos rfl).symm
  | d + 1, i, n, s, hi, hn => by
    have ih := fun m s hm => K_judge_58 h d (i + 1) m s (by omega) hm
    obtain ⟨h2, h3, h4, h5, h6⟩ := h
    obtain ⟨m, rfl⟩ : ∃ m, n = m + 1 := ⟨n - 1, by omega⟩
    show mK_judge_58b (mK_judge_58 m) (mK_judge_110 fuel) (nI (C + T)) (nI C) s (nI i) N = _
    unfold mK_judge_58b
    have i1 : (1482 : Int32) + nI i = nI (1482 + i) := nI_add 1482 i
    rw [if_pos (nI_lt (show i < C + T by omega) (by omega)), i1, jz_s, js_s]
    simp only [ixx_nI (show 1482 + i < 1502 by omega) (show 1502 < 2 ^ 31 by decide), h5 i (by omega), nI_1]
    by_cases z0 : i < C
    · rw [if_pos (nI_lt z0 (by omega)), if_pos (c := i < C ∨ g i ≤ 0) (Or.inl z0)]
      exact ih m _ (by omega)
    · rw [if_neg (nI_nlt (by omega) (by omega))]
      by_cases z : g i ≤ 0
      · rw [if_pos z, if_pos (c := i < C ∨ g i ≤ 0) (Or.inr z)]
        exact ih m _ (by omega)
      · rw [if_neg z, if_neg (c := i < C ∨ g i ≤ 0) (not_or.mpr ⟨z0, z⟩), if_neg (c := (1 : Int32) = 0) (by decide)]
theorem s_judge {B : Nat} {M N : Mem} (h : Rel B M N) : Sim (Rel (B + 1)) (mF_judge M) (mK_judge N) := by
  have b0 := h.1.c.b0
  have b2 := h.1.c.b2
  have b8 := h.1.c.b8
  have e0 := h.1.c.e0
  have e2 := h.1.c.e2
  have e8 := h.1.c.e8
  have n0 := h.1.c.n0
  have n2 := h.1.c.n2
  have n8 := h.1.c.n8
  obtain ⟨M1, hM1⟩ : ∃ M1, M1 = up M 1 0 0 16 0 := ⟨_, rfl⟩
  obtain ⟨N1, hN1⟩ : ∃ N1, N1 = up N 41 0 0 8 0 := ⟨_, rfl⟩
  have hR : Rel B M1 N1 := by
    rw [hM1, hN1]
    refine h.world (by omega) ?_ (fun r w i k _ _ _ _ q => by rw [up_ne (by omega)]) (fun r k q => by rw [up_ne (by omega)])
    rw [up_row]
    refine h.1.wait (by omega) (fun r i k _ _ q => by rw [up_ne (by omega)]) (fun k q => by rw [pk_un (by omega)]) ?_ ?_
    · refine h.1.c.set (j := 8) (n := 0) (by decide) (by decide) (fun k hk e => ?_) (fun k hk e => ?_) up_eq pk_us
      · have := slC_ne hk (by decide) e
        have e' : slC 8 = 16 := rfl
        rw [up_ne (by omega)]
      · rw [pk_un (by omega)]
    · intro j hj
      have hc : cn (upd (N 41 0 0) 8 0) 8 = 0 := cn_nI (n := 0) pk_us (by omega)
      rw [hc] at hj
      exact absurd hj (Nat.not_lt_zero _)
  have q0 : M1 1 0 0 2 = N1 41 0 0 0 := hR.1.c.e0
  have q2 : M1 1 0 0 6 = N1 41 0 0 2 := hR.1.c.e2
  have f0 : N1 41 0 0 0 = N 41 0 0 0 := by rw [hN1, up_ne (by omega)]
  have f2 : N1 41 0 0 2 = N 41 0 0 2 := by rw [hN1, up_ne (by omega)]
  unfold mF_judge mK_judge mK_judgeb
  simp only [bindE]
  rw [← hM1, ← hN1, q0, q2, e8]
  refine Sim.ite (fun _ => Sim.f3 hR) (fun hq => ?_)
  have c0 : cn (N1 41 0 0) 0 = cn (N 41 0 0) 0 := cn_same f0
  have c2 : cn (N1 41 0 0) 2 = cn (N 41 0 0) 2 := cn_same f2
  have hCT : cn (N1 41 0 0) 2 ≤ cn (N1 41 0 0) 0 := by
    rw [f0, f2, n0, n2] at hq
    rw [c0, c2]
    rcases Nat.lt_or_ge (cn (N 41 0 0) 0) (cn (N 41 0 0) 2) with z | z
    · exact absurd (nI_lt z (by omega)) hq
    · exact z
  refine Sim.ite (fun hn => ?_) (fun _ => Sim.ret hR.up1)
  have hn2 : cn (N 41 0 0) 8 = cn (N 41 0 0) 2 + cn (N 41 0 0) 0 := by
    rw [f0, f2, n0, n2, n8, nI_add] at hn
    exact (nI_eq (by omega) (by omega)).mp hn
  have hw := winter_ok hR.1 hCT
  generalize hC : cn (N 41 0 0) 2 = C at *
  generalize hT : cn (N 41 0 0) 0 = T at *
  have J1 : JM M1 C T (fun j => N 41 0 0 (1482 + j)) (fun c t => N 41 0 0 (1392 + 8 * c + t)) := by
    refine ⟨by rw [q2, f2, n2], by rw [q0, f0, n0], b2, b0, fun j hj => ?_, fun c t hc ht => ?_⟩
    · rw [hM1, upR (by decide)]
      exact h.1.q j (by omega)
    · rw [hM1, upR (by decide)]
      exact (h.1.w c (by omega) t (by omega)).1
  have J2 : JN N1 C T (fun j => N 41 0 0 (1482 + j)) (fun c t => N 41 0 0 (1392 + 8 * c + t)) := by
    refine ⟨by rw [f0, n0], b2, b0, fun j hj => ?_, fun c t hc ht => ?_⟩
    · rw [hN1, up_ne (by omega)]
    · rw [hN1, up_ne (by omega)]
  generalize (fun j => N 41 0 0 (1482 + j)) = g at J1 J2
  generalize (fun c t => N 41 0 0 (1392 + 8 * c + t)) = cs at J1 J2
  have k58 := K_judge_58 J2 (C + T) 0 fuel 0 (by omega) (by unfold fuel; omega)
  have m1 := W_townRow_2 J1 T 0 fuel (by omega) (by unfold fuel; omega)
  have m2 := W_rowsAbove_2 J1 C 0 fuel (by omega) (by unfold fuel; omega)
  have m3 := W_rowsTogether_4 J1 (C + T) 0 fuel 0 (by omega) (by unfold fuel; omega)
  have e1 : mW_townRowAboveZero 0 M1 = some (jz g C T (C + 0), M1) := m1
  have e3 : mW_rowsAboveCost 0 M1 = some (jc g cs C T C 0, M1) := m2
  have e4 : mW_rowsTogether 0 M1 = some (js g (C + T) 0 0, M1) := m3
  have e5 : mK_judge_58 fuel (N 41 0 0 8) (N1 41 0 0 2) 0 0 N1 = mK_judge_58 fuel (nI (C + T)) (nI C) 0 (nI 0) N1 := by
    rw [n8, hn2, f2, n2]
    rfl
  rw [e5, k58, e1, jz_skip g C T C 0 (by omega), Nat.add_zero]
  simp only [Option.bind_some]
  refine Sim.ite (fun _ => ?_) (fun _ => Sim.ret hR.up1)
  rw [e3]
  simp only [Option.bind_some]
  refine Sim.ite (fun _ => ?_) (fun _ => Sim.ret hR.up1)
  rw [e4]
  obtain ⟨v, M', N', _, w1, w2, w3, w4, w5, _⟩ := hw
  unfold xJ
  rw [w2]
  simp only [Option.bind_some]
  rw [w1, w3]
  simp only [Option.bind_some]
  have hF : Rel (B + 1) M' N' := hR.frame (by omega) (fun r w i k _ q _ _ => w4 r w i k q) (fun r k q => w5 r 0 0 k (by omega))
  exact Sim.ite (fun _ => Sim.ret hF) (fun _ => Sim.ret hF)
