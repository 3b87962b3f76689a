/-! ===== muster ===== -/
/-- the least lance of a company with a mark that is there -/
def lst (f : Row) (c x : Int32) : Nat → Nat → Int32
  | 0, _ => -1
  | d + 1, i => if f (220 + 5 * i) = c ∧ f (220 + 5 * i + 1) = x ∧ (f (220 + 5 * i + 3) = 0 ∨ f (220 + 5 * i + 3) = 1) then nI i else lst f c x d (i + 1)
theorem lst_s (f : Row) (c x : Int32) (d i : Nat) : lst f c x (d + 1) i = if f (220 + 5 * i) = c ∧ f (220 + 5 * i + 1) = x ∧ (f (220 + 5 * i + 3) = 0 ∨ f (220 + 5 * i + 3) = 1) then nI i else lst f c x d (i + 1) := rfl
theorem lst_spec (f : Row) (c x : Int32) : ∀ d i, lst f c x d i = -1 ∨ isN (lst f c x d i) (i + d)
  | 0, _ => .inl rfl
  | d + 1, i => by
    rw [lst_s]
    split
    · exact .inr ⟨i, by omega, rfl⟩
    · exact (lst_spec f c x d (i + 1)).imp id (fun q => q.mono (by omega))
theorem lst_cong {f f' : Row} (c x : Int32) : ∀ d i, (∀ k, 220 + 5 * i ≤ k → k < 220 + 5 * (i + d) → f' k = f k) → lst f' c x d i = lst f c x d i
  | 0, _, _ => rfl
  | d + 1, i, h => by rw [lst_s, lst_s, h _ (by omega) (by omega), h _ (by omega) (by omega), h _ (by omega) (by omega), lst_cong c x d (i + 1) (fun k h1 h2 => h k (by omega) (by omega))]
theorem inF_cong {f f' : Row} (u x : Int32) : ∀ n, (∀ k, 420 ≤ k → k < 420 + 53 * n → f' k = f k) → inF f' u x n = inF f u x n
  | 0, _ => rfl
  | n + 1, h => by rw [inF_s, inF_s, h _ (by omega) (by omega), h _ (by omega) (by omega), inF_cong u x n (fun k h1 h2 => h k h1 (by omega))]
theorem le1 {f : Row} {k : Nat} (h : isN (f k) 4) : (f k ≤ 1) ↔ (f k = 0 ∨ f k = 1) := by
  obtain ⟨s, hs, es⟩ := h
  rw [es]
  constructor
  · intro z
    have := (nI_leI (b := 1) (by omega) (by decide)).mp z
    rcases (by omega : s = 0 ∨ s = 1) with rfl | rfl
    · exact .inl rfl
    · exact .inr rfl
  · intro q
    rcases q with q | q <;> rw [q] <;> decide
theorem W_leastOf_2 {B : Nat} {M : Mem} {w : Nat} {f : Row} (h : RW B M w f) (c x : Int32) : ∀ (d i n : Nat), i + d = cn f 3 → d < n → mW_leastOf_2 n w c x (nI i) M = some (lst f c x d i, M) := by
  have b3 := h.c.b3
  intro d
  induction d with
  | zero =>
    intro i n hi hn
    obtain ⟨m, rfl⟩ : ∃ m, n = m + 1 := ⟨n - 1, by omega⟩
    show mW_leastOf_2b (mW_leastOf_2 m) w c x (nI i) M = _
    unfold mW_leastOf_2b
    rw [h.c.e3, h.c.n3, if_neg (nI_nlt (by omega) (by omega))]
    rfl
  | succ d ih =>
    intro i n hi hn
    obtain ⟨m, rfl⟩ : ∃ m, n = m + 1 := ⟨n - 1, by omega⟩
    show mW_leastOf_2b (mW_leastOf_2 m) w c x (nI i) M = _
    unfold mW_leastOf_2b
    obtain ⟨q1, q2, q3, q4⟩ := h.l i (by omega)
    have q10 : M 10 w i 0 = f (220 + 5 * i) := q1 0 (by decide)
    rw [h.c.e3, h.c.n3, if_pos (nI_lt (by omega) (by omega)), ixx_nI (by omega) (by decide), q10, q1 1 (by decide), L_present_eq, q1 3 (by decide)]
    simp only [Option.bind_some, bI_ite]
    rw [nI_1, ih _ _ (by omega) (by omega), lst_s]
    by_cases z1 : f (220 + 5 * i) = c
    · rw [if_pos z1]
      by_cases z2 : f (220 + 5 * i + 1) = x
      · rw [if_pos z2]
        by_cases z3 : f (220 + 5 * i + 3) = 0 ∨ f (220 + 5 * i + 3) = 1
        · rw [if_pos z3, if_pos ⟨z1, z2, z3⟩]
        · rw [if_neg z3, if_neg (fun z => z3 z.2.2)]
      · rw [if_neg z2, if_neg (fun z => z2 z.2.1)]
    · rw [if_neg z1, if_neg (fun z => z1 z.1)]
theorem W_leastOf_eq {B : Nat} {M : Mem} {w : Nat} {f : Row} (h : RW B M w f) (c x : Int32) : mW_leastOf w c x M = some (lst f c x (cn f 3) 0, M) := W_leastOf_2 h c x _ 0 fuel (by omega) (by have := h.c.b3; unfold fuel; omega)
theorem K_marked_2 {B : Nat} {M N : Mem} {w : Nat} (h : RW B M w (N 41 0 0)) (c x : Int32) : ∀ (d i n : Nat), i + d = cn (N 41 0 0) 3 → d < n → mK_marked_2 n c x (nI i) N = some (lst (N 41 0 0) c x d i, N) := by
  have b3 := h.c.b3
  intro d
  induction d with
  | zero =>
    intro i n hi hn
    obtain ⟨m, rfl⟩ : ∃ m, n = m + 1 := ⟨n - 1, by omega⟩
    show mK_marked_2b (mK_marked_2 m) c x (nI i) N = _
    unfold mK_marked_2b
    rw [h.c.n3, if_neg (nI_nlt (by omega) (by omega))]
    rfl
  | succ d ih =>
    intro i n hi hn
    obtain ⟨m, rfl⟩ : ∃ m, n = m + 1 := ⟨n - 1, by omega⟩
    show mK_marked_2b (mK_marked_2 m) c x (nI i) N = _
    unfold mK_marked_2b
    have i40 : i < 40 := by omega
    obtain ⟨q1, q2, q3, q4⟩ := h.l i (by omega)
    rw [h.c.n3, if_pos (nI_lt (by omega) (by omega))]
    simp only [K_its_0 i40, K_its_1 i40, K_its_3 i40, Option.bind_some]
    rw [nI_1, ih _ _ (by omega) (by omega), lst_s]
    by_cases z1 : N 41 0 0 (220 + 5 * i) = c
    · rw [if_pos z1]
      by_cases z2 : N 41 0 0 (220 + 5 * i + 1) = x
      · rw [if_pos z2]
        by_cases z3 : N 41 0 0 (220 + 5 * i + 3) = 0 ∨ N 41 0 0 (220 + 5 * i + 3) = 1
        · rw [if_pos ((le1 q3).mpr z3), if_pos ⟨z1, z2, z3⟩]
        · rw [if_neg (fun z => z3 ((le1 q3).mp z)), if_neg (fun z => z3 z.2.2)]
      · rw [if_neg z2, if_neg (fun z => z2 z.2.1)]
    · rw [if_neg z1, if_neg (fun z => z1 z.1)]
theorem K_marked_eq {B : Nat} {M N : Mem} {w : Nat} (h : RW B M w (N 41 0 0)) (c x : Int32) : mK_marked c x N = some (lst (N 41 0 0) c x (cn (N 41 0 0) 3) 0, N) := K_marked_2 h c x _ 0 fuel (by omega) (by have := h.c.b3; unfold fuel; omega)
/-- two rows that say the same of counts, lances and statutes -/
def agr (f g : Row) : Prop := ∀ k, k < 9 ∨ (220 ≤ k ∧ k < 1056) → g k = f k
theorem counts_ok {B B' : Nat} {M M1 N : Mem} {w w1 : Nat} {f : Row} (h : RW B M w f) (h' : RW B' M1 w1 (N 41 0 0)) (e : agr f (N 41 0 0)) {l : Nat} (hl : l < cn f 3) : Sim (sWV w M N) (mW_counts w (nI l) M) (mK_counts (nI l) N) := by
  have b3 := h.c.b3
  have b4 := h.c.b4
  have l4 : l < 40 := by omega
  obtain ⟨q1, q2, q3, q4⟩ := h.l l hl
  have e6 : N 41 0 0 6 = f 6 := e 6 (.inl (by decide))
  have e4 : cn (N 41 0 0) 4 = cn f 4 := cn_same (e 4 (.inl (by decide)))
  have eF : inF (N 41 0 0) 0 (f 6) (cn f 4) = inF f 0 (f 6) (cn f 4) := inF_cong 0 (f 6) _ (fun k h1 h2 => e k (by omega))
  unfold mW_counts mK_counts
  rw [if_neg (nI_pos (by omega)), ixx_nI l4 (by decide)]
  simp only [h.c.e6, W_inForce_eq h, K_inForce_eq h', e6, e4, eF, K_its_1 l4, K_its_2 l4, K_its_3 l4, Option.bind_some, q1 1 (by decide), q1 2 (by decide), q1 3 (by decide), e (220 + 5 * l + 1) (by omega), e (220 + 5 * l + 2) (by omega), e (220 + 5 * l + 3) (by omega)]
  refine Sim.ite (fun _ => Sim.ite (fun _ => Sim.ret sWV.rf) (fun _ => Sim.ret sWV.rf)) (fun zf => ?_)
  rcases inF_spec f 0 (f 6) (cn f 4) with q | ⟨s, hs, q⟩
  · rw [q] at zf
    exact absurd (by decide) zf
  rw [q, ixx_nI (by omega) (by decide)]
  have hx : XS1 M w (N 41 0 0) s := (h.s s hs).cong (fun _ _ => rfl) (fun _ _ => rfl) (fun k h1 h2 => e k (by omega))
  obtain ⟨v, M', N', a1, a2, a3, a4⟩ := work1 (by omega) hx (f (220 + 5 * l + 2)) (f (220 + 5 * l + 1)) (f (220 + 5 * l + 3))
  rw [a1, a2]
  simp only [Option.bind_some]
  exact Sim.ite (fun _ => Sim.ret ⟨a3, a4⟩) (fun _ => Sim.ret ⟨a3, a4⟩)
/-- whether a mark was shown before, by the reference -/
theorem K_263 {c i : Nat} (c5 : c < 5) (hi : i < 12) (r : Int32 → Int32 → Int32 → Int32 → Mem → Option (Int32 × Mem)) (s x y : Int32) (N : Mem) : ∀ (d k n : Nat) (b : Int32), k + d = i → d < n → (b = 0 ∨ b = 1) → mK_muster_263 r n (nI c) s x (nI i) y b (nI k) N = mK_muster_263 r 1 (nI c) s x (nI i) y (if b = 0 then shw (fun j => N 41 0 0 (100 + 24 * c + 10 + j)) y d k else 1) (nI i) N
  | 0, k, n, b, hk, hn, hb => by
    obtain ⟨n, rfl⟩ : ∃ m, n = m + 1 := ⟨n - 1, by omega⟩
    obtain rfl : k = i := hk
    show mK_muster_263b r (mK_muster_263 r n) (nI c) s x (nI k) y b (nI k) N = mK_muster_263b r (mK_muster_263 r 0) (nI c) s x (nI k) y _ (nI k) N
    unfold mK_muster_263b
    rw [if_neg (nI_nlt (Nat.le_refl _) (by omega)), if_neg (nI_nlt (Nat.le_refl _) (by omega))]
    rcases hb with rfl | rfl
    · rfl
    · rfl
  | d + 1, k, n, b, hk, hn, hb => by
    obtain ⟨n, rfl⟩ : ∃ m, n = m + 1 := ⟨n - 1, by omega⟩
    show mK_muster_263b r (mK_muster_263 r n) (nI c) s x (nI i) y b (nI k) N = _
    unfold mK_muster_263b
    rw [if_pos (nI_lt (by omega) (by omega)), K_own_m c5 (by omega)]
    simp only [Option.bind_some, nI_1]
    have ih := fun b' hb' => K_263 c5 hi r s x y N d (k + 1) n b' (by omega) (by omega) hb'
    rw [ih 0 (.inl rfl), ih 1 (.inr rfl)]
    rcases hb with rfl | rfl
    · rw [if_pos rfl, if_pos rfl, shw_s, if_pos rfl]
      by_cases z : N 41 0 0 (100 + 24 * c + 10 + k) = y
      · rw [if_pos z, if_pos z, if_neg (by decide)]
      · rw [if_neg z, if_neg z]
    · rw [if_neg (by decide), if_neg (by decide), if_neg (by decide)]
/-- the end of the reference's muster -/
def mT (c s : Nat) (v : Int32) (N : Mem) : Option (Int32 × Mem) :=
  (mK_sets (nI c) 9 (N 65 0 0 s) N).bind fun q4 =>
    (mK_sets (nI c) 6 v q4).bind fun q5 =>
    (mK_sets (nI c) 7 (q5 41 0 0 6) q5).bind fun q6 =>
    (mK_own (nI c) 2 q6).bind fun q7 =>
    (mK_sets (nI c) 8 q7.1 q7.2).bind fun q8 =>
    some (v, q8)
theorem mshown {B B' : Nat} {w c s many : Nat} {f : Row} (c5 : c < 5) (s4 : s < 4) (hm : many ≤ 12) : ∀ (d i n m : Nat) (x : Int32) (M N M1 : Mem), RW B M w f → RW B' M1 w (N 41 0 0) → agr f (N 41 0 0) → (∀ j, j < many → M 7 w c j = N 41 0 0 (100 + 24 * c + 10 + j)) → M 6 w c 11 = nI many → N 65 0 0 s = nI many → i + d = many → d < n → d < m → ∃ v M' N', mW_countShown_12 n w (nI c) w c x (nI i) M = some (v, M') ∧ mK_muster_225 m (nI c) (nI s) x (nI i) N = mT c s v N' ∧ sWV w M N M' N'
  | 0, i, n, m, x, M, N, M1, h, h', e, hk, e11, e65, hi, hn, hm' => by
    obtain ⟨n, rfl⟩ : ∃ k, n = k + 1 := ⟨n - 1, by omega⟩
    obtain ⟨m, rfl⟩ : ∃ k, m = k + 1 := ⟨m - 1, by omega⟩
    refine ⟨x, M, N, ?_, ?_, sWV.rf⟩
    · show mW_countShown_12b (mW_countShown_12 n) w (nI c) w c x (nI i) M = _
      unfold mW_countShown_12b
      rw [e11, if_neg (nI_nlt (by omega) (by omega))]
    · show mK_muster_225b _ (nI c) (nI s) x (nI i) N = _
      unfold mK_muster_225b
      rw [ixx_nI s4 (by decide), e65, if_neg (nI_nlt (by omega) (by omega)), ixx_nI s4 (by decide)]
      unfold mT
      rw [e65]
  | d + 1, i, n, m, x, M, N, M1, h, h', e, hk, e11, e65, hi, hn, hm' => by
    obtain ⟨n, rfl⟩ : ∃ k, n = k + 1 := ⟨n - 1, by omega⟩
    obtain ⟨m, rfl⟩ : ∃ k, m = k + 1 := ⟨m - 1, by omega⟩
    have b3 := h.c.b3
    have key : ∀ (x' : Int32) (M' N' : Mem), sWV w M N M' N' → ∃ v M2 N2, mW_countShown_12 n w (nI c) w c x' (nI (i + 1)) M' = some (v, M2) ∧ mK_muster_225 m (nI c) (nI s) x' (nI (i + 1)) N' = mT c s v N2 ∧ sWV w M N M2 N2 := by
      intro x' M' N' g
      have r1 : RW B M' w f := h.cong (Nat.le_refl _) (fun r i k q _ => g.1 r w i k (fun z => q z.1))
      obtain ⟨v, M2, N2, a1, a2, a3⟩ := mshown c5 s4 hm d (i + 1) n m x' M' N' M1 r1 (by rw [g.row]; exact h') (by rw [g.row]; exact e) (fun j hj => by rw [g.row, g.1 7 w c j (by omega)]; exact hk j hj) (by rw [g.1 6 w c 11 (by omega)]; exact e11) (by rw [g.2 65 0 0 s (by decide) (by decide)]; exact e65) (by omega) (by omega) (by omega)
      exact ⟨v, M2, N2, a1, a2, g.tr a3⟩
    show ∃ v M' N', mW_countShown_12b (mW_countShown_12 n) w (nI c) w c x (nI i) M = some (v, M') ∧ mK_muster_225b (mK_muster_263 (mK_muster_225 m) fuel) (nI c) (nI s) x (nI i) N = mT c s v N' ∧ sWV w M N M' N'
    unfold mW_countShown_12b mK_muster_225b
    have e3 : cn (N 41 0 0) 3 = cn f 3 := cn_same (e 3 (.inl (by decide)))
    rw [e11, if_pos (nI_lt (by omega) (by omega)), ixx_nI (show i < 12 by omega) (by decide), ixx_nI s4 (by decide), e65, if_pos (nI_lt (by omega) (by omega)), K_own_m c5 (by omega), hk i (by omega)]
    simp only [Option.bind_some, nI_1]
    generalize hy : N 41 0 0 (100 + 24 * c + 10 + i) = y at *
    rw [C_shows_eq w c y M (by omega), shw_cong y i 0 (g := M 7 w c) (g' := fun j => N 41 0 0 (100 + 24 * c + 10 + j)) (fun k _ h2 => hk k (by omega))]
    have r1 := K_263 c5 (show i < 12 by omega) (mK_muster_225 m) (nI s) x y N i 0 fuel 1 (by omega) (by unfold fuel; omega) (.inr rfl)
    have r0 := K_263 c5 (show i < 12 by omega) (mK_muster_225 m) (nI s) x y N i 0 fuel 0 (by omega) (by unfold fuel; omega) (.inl rfl)
    have r1 : mK_muster_263 (mK_muster_225 m) fuel (nI c) (nI s) x (nI i) y 1 0 N = _ := r1
    have r0 : mK_muster_263 (mK_muster_225 m) fuel (nI c) (nI s) x (nI i) y 0 0 N = _ := r0
    rw [r1, r0, if_neg (show ¬ (1 : Int32) = 0 by decide), if_pos (show (0 : Int32) = 0 from rfl)]
    simp only [Option.bind_some]
    have ex : ∀ b : Int32, mK_muster_263 (mK_muster_225 m) 1 (nI c) (nI s) x (nI i) y b (nI i) N = mK_muster_263b (mK_muster_225 m) (mK_muster_263 (mK_muster_225 m) 0) (nI c) (nI s) x (nI i) y b (nI i) N := fun b => rfl
    rw [ex, ex]
    unfold mK_muster_263b
    rw [if_neg (nI_nlt (Nat.le_refl _) (by omega)), if_neg (nI_nlt (Nat.le_refl _) (by omega)), if_neg (show ¬ (1 : Int32) = 0 by decide)]
    simp only [Int32.add_zero, nI_1]
    by_cases z : y < 0
    · rw [if_pos z, if_pos z]
      exact key x M N sWV.rf
    · rw [if_neg z, if_neg z]
      rcases shw_01 (fun j => N 41 0 0 (100 + 24 * c + 10 + j)) y i 0 with q | q
      · rw [q, if_pos rfl, if_pos rfl, W_leastOf_eq h, K_marked_eq h']
        simp only [Option.bind_some]
        rw [e3, lst_cong (f := f) (nI c) y (cn f 3) 0 (fun k h1 h2 => e k (by omega))]
        rcases lst_spec f (nI c) y (cn f 3) 0 with q2 | ⟨l, hl, q2⟩
        · rw [q2, if_pos (by decide)]
          have e0 : mW_counts w (-1) M = some (0, M) := by
            unfold mW_counts
            rw [if_pos (by decide)]
          rw [e0]
          simp only [Option.bind_some, if_true]
          exact key x M N sWV.rf
        · rw [q2, if_neg (nI_pos (by omega))]
          obtain ⟨v, M', N', a1, a2, a3⟩ := counts_ok h h' e (l := l) (by omega)
          rw [a1, a2]
          simp only [Option.bind_some]
          by_cases zv : v = 0
          · rw [if_pos zv, if_pos zv]
            exact key x M' N' a3
          · rw [if_neg zv, if_neg zv]
            exact key (x + 1) M' N' a3
      · rw [q, if_neg (by decide), if_neg (by decide)]
        exact key x M N sWV.rf
/-- the marks that a company shows now -/
def mkS (f : Row) (g : Nat → Int32) (c old n j : Nat) : Int32 := if j < n ∧ ¬ g j < 0 then g j else if j < old then f (100 + 24 * c + 10 + j) else -1
theorem K_135 {c s many old : Nat} {f : Row} {g : Nat → Int32} (c5 : c < 5) (s4 : s < 4) (hm : many ≤ 12) (ho : old ≤ 12) : ∀ (d i n : Nat) (N : Mem), i + d = many → d < n → N 65 0 0 s = nI many → (∀ k, k < 24 → N 66 0 0 (24 * s + k) = g k) → N 41 0 0 (100 + 24 * c + 9) = nI old → (∀ j, i ≤ j → j < 12 → N 41 0 0 (100 + 24 * c + 10 + j) = f (100 + 24 * c + 10 + j)) → ∃ N', mK_muster_135 n (nI c) (nI s) 0 (nI i) N = mK_muster_225 fuel (nI c) (nI s) 0 0 N' ∧ (∀ r w' i' k, ¬ (r = 41 ∧ w' = 0 ∧ i' = 0 ∧ 100 + 24 * c + 10 + i ≤ k ∧ k < 100 + 24 * c + 10 + many) → N' r w' i' k = N r w' i' k) ∧ ∀ j, i ≤ j → j < many → N' 41 0 0 (100 + 24 * c + 10 + j) = mkS f g c old many j
  | 0, i, n, N, hi, hn, e65, eg, e9, ef => by
    obtain ⟨n, rfl⟩ : ∃ k, n = k + 1 := ⟨n - 1, by omega⟩
    refine ⟨N, ?_, fun _ _ _ _ _ => rfl, fun j h1 h2 => by omega⟩
    show mK_muster_135b (mK_muster_172 (mK_muster_135 n)) (mK_muster_225 fuel) (nI c) (nI s) 0 (nI i) N = _
    unfold mK_muster_135b
    rw [ixx_nI s4 (by decide), e65, if_neg (nI_nlt (by omega) (by omega))]
  | d + 1, i, n, N, hi, hn, e65, eg, e9, ef => by
    obtain ⟨n, rfl⟩ : ∃ k, n = k + 1 := ⟨n - 1, by omega⟩
    have h9 : mK_own (nI c) 9 N = some (nI old, N) := by rw [K_own_9 c5, e9]
    have st : ∃ N', mK_muster_135 (n + 1) (nI c) (nI s) 0 (nI i) N = mK_muster_135 n (nI c) (nI s) 0 (nI (i + 1)) (up N 41 0 0 (100 + 24 * c + 10 + i) (mkS f g c old many i)) ∧ N' = N := by
      refine ⟨N, ?_, rfl⟩
      show mK_muster_135b (mK_muster_172 (mK_muster_135 n)) (mK_muster_225 fuel) (nI c) (nI s) 0 (nI i) N = _
      unfold mK_muster_135b mK_muster_172 mK_muster_172b
      have ix : (24 : Int32) * nI s + nI i = nI (24 * s + i) := by rw [show (24 : Int32) = nI 24 from rfl, pk_mul, nI_add]
      have es : ∀ v, mK_sets (nI c) (10 + nI i) v N = some (up N 41 0 0 (100 + 24 * c + 10 + i) v) := fun v => by
        have := K_sets_n (v := v) (N := N) c5 (show 10 + i < 24 by omega)
        rw [← nI_add, show 100 + 24 * c + (10 + i) = 100 + 24 * c + 10 + i by omega] at this
        exact this
      rw [ixx_nI s4 (by decide), e65, if_pos (nI_lt (by omega) (by omega)), h9]
      simp only [Option.bind_some, ix, ixx_nI (show 24 * s + i < 96 by omega) (show 96 < 2 ^ 31 by decide), es, eg i (by omega), K_own_m c5 (show i < 14 by omega), nI_1, ef i (Nat.le_refl _) (by omega)]
      unfold mkS
      by_cases z1 : i < old
      · rw [if_pos (nI_lt z1 (by omega)), if_pos z1]
        by_cases z2 : g i < 0
        · rw [if_pos z2, if_neg (fun z => z.2 z2)]
        · rw [if_neg z2, if_pos ⟨by omega, z2⟩]
      · rw [if_neg (nI_nlt (by omega) (by omega)), if_neg z1]
        by_cases z2 : g i < 0
        · rw [if_pos z2, if_neg (fun z => z.2 z2)]
        · rw [if_neg z2, if_pos ⟨by omega, z2⟩]
    obtain ⟨_, st, -⟩ := st
    obtain ⟨N', a1, a2, a3⟩ := K_135 (f := f) (g := g) c5 s4 hm ho d (i + 1) n (up N 41 0 0 (100 + 24 * c + 10 + i) (mkS f g c old many i)) (by omega) (by omega) (by rw [upR (by decide)]; exact e65) (fun k hk => by rw [upR (by decide)]; exact eg k hk) (by rw [up_ne (by omega)]; exact e9) (fun j h1 h2 => by rw [up_ne (by omega)]; exact ef j (by omega) h2)
    refine ⟨N', st.trans a1, fun r w' i' k q => ?_, fun j h1 h2 => ?_⟩
    · rw [a2 r w' i' k (by omega), up_ne (by omega)]
    · by_cases ej : j = i
      · subst ej
        rw [a2 41 0 0 _ (by omega), up_eq]
      · exact a3 j (by omega) h2
theorem C_show {w c s many old : Nat} {f : Row} {g : Nat → Int32} (hm : many ≤ 12) (ho : old ≤ 12) : ∀ (d i n : Nat) (M : Mem), i + d = 12 → d < n → M 19 0 s 1 = nI many → (∀ k, k < 24 → M 20 0 s k = g k) → M 6 w c 11 = nI old → (∀ j, i ≤ j → j < old → M 7 w c j = f (100 + 24 * c + 10 + j)) → ∃ M', mC_show_2 n w c s (nI i) M = some M' ∧ (∀ r w' i' k, ¬ (w' = w ∧ i' = c ∧ (r = 7 ∨ (r = 6 ∧ k = 11))) → M' r w' i' k = M r w' i' k) ∧ M' 6 w c 11 = nI many ∧ (∀ j, j < i → M' 7 w c j = M 7 w c j) ∧ ∀ j, i ≤ j → j < 12 → M' 7 w c j = mkS f g c old many j
  | 0, i, n, M, hi, hn, e19, eg, e11, ef => by
    obtain ⟨n, rfl⟩ : ∃ k, n = k + 1 := ⟨n - 1, by omega⟩
    obtain rfl : i = 12 := hi
    refine ⟨up M 6 w c 11 (nI many), ?_, fun r w' i' k q => up_ne (by omega), up_eq, fun j _ => upR (by decide), fun j h1 h2 => by omega⟩
    show mC_show_2b (mC_show_26 (mC_show_2 n)) w c s (nI 12) M = _
    unfold mC_show_2b
    rw [if_neg (by decide), e19]
    have : (if (12 : Int32) < nI many then 12 else nI many) = nI many := if_neg (nI_nlt (a := 12) hm (by decide))
    simp only [this]
  | d + 1, i, n, M, hi, hn, e19, eg, e11, ef => by
    obtain ⟨n, rfl⟩ : ∃ k, n = k + 1 := ⟨n - 1, by omega⟩
    have st : mC_show_2 (n + 1) w c s (nI i) M = mC_show_2 n w c s (nI (i + 1)) (up M 7 w c i (mkS f g c old many i)) := by
      show mC_show_2b (mC_show_26 (mC_show_2 n)) w c s (nI i) M = _
      unfold mC_show_2b mC_show_26 mC_show_26b
      rw [if_pos (show nI i < (12 : Int32) from nI_lt (b := 12) (by omega) (by decide)), e11, e19]
      simp only [ixx_nI (show i < 12 by omega) (show 12 < 2 ^ 31 by decide), ixx_nI (show i < 24 by omega) (show 24 < 2 ^ 31 by decide), eg i (by omega), nI_1]
      unfold mkS
      by_cases z1 : i < old
      · rw [if_pos (nI_lt z1 (by omega)), if_pos z1, ef i (Nat.le_refl _) z1]
        by_cases z3 : i < many
        · rw [if_pos (nI_lt z3 (by omega))]
          by_cases z2 : g i < 0
          · rw [if_pos z2, if_neg (fun z => z.2 z2)]
          · rw [if_neg z2, if_pos ⟨z3, z2⟩]
        · rw [if_neg (nI_nlt (by omega) (by omega)), if_neg (fun z => z3 z.1)]
      · rw [if_neg (nI_nlt (by omega) (by omega)), if_neg z1]
        by_cases z3 : i < many
        · rw [if_pos (nI_lt z3 (by omega))]
          by_cases z2 : g i < 0
          · rw [if_pos z2, if_neg (fun z => z.2 z2)]
          · rw [if_neg z2, if_pos ⟨z3, z2⟩]
        · rw [if_neg (nI_nlt (by omega) (by omega)), if_neg (fun z => z3 z.1)]
    obtain ⟨M', a1, a2, a3, a4, a5⟩ := C_show (f := f) (g := g) hm ho d (i + 1) n (up M 7 w c i (mkS f g c old many i)) (by omega) (by omega) (by rw [upR (by decide)]; exact e19) (fun k hk => by rw [upR (by decide)]; exact eg k hk) (by rw [upR (by decide)]; exact e11) (fun j h1 h2 => by rw [up_ne (by omega)]; exact ef j (by omega) h2)
    refine ⟨M', st.trans a1, fun r w' i' k q => ?_, a3, fun j hj => ?_, fun j h1 h2 => ?_⟩
    · rw [a2 r w' i' k q, up_ne (by omega)]
    · rw [a4 j (by omega), up_ne (by omega)]
    · by_cases ej : j = i
      · subst ej
        rw [a4 j (by omega), up_eq]
      · exact a5 j (by omega) h2
theorem K_71 {c s many : Nat} {N : Mem} (s4 : s < 4) (hm : many ≤ 24) (e65 : N 65 0 0 s = nI many) : ∀ (d i n : Nat) (b : Int32), i + d = many → d < n → (b = 0 ∨ b = 1) → mK_muster_71 n (nI c) (nI s) b (nI i) N = if b = 0 ∨ allW (fun k => N 66 0 0 (24 * s + k)) (-1) 99 d i = 0 then mK_finds 5 N else mK_muster_135 fuel (nI c) (nI s) 0 0 N
  | 0, i, n, b, hi, hn, hb => by
    obtain ⟨n, rfl⟩ : ∃ k, n = k + 1 := ⟨n - 1, by omega⟩
    show mK_muster_71b (mK_muster_71 n) (mK_muster_135 fuel) (nI c) (nI s) b (nI i) N = _
    unfold mK_muster_71b
    rw [ixx_nI s4 (by decide), e65, if_neg (nI_nlt (by omega) (by omega)), bindE]
    rcases hb with rfl | rfl
    · rw [if_pos rfl, if_pos (.inl rfl)]
    · rw [if_neg (by decide), if_neg]
      intro z
      rcases z with z | z
      · exact absurd z (by decide)
      · exact absurd z (show ¬ (1 : Int32) = 0 by decide)
  | d + 1, i, n, b, hi, hn, hb => by
    obtain ⟨n, rfl⟩ : ∃ k, n = k + 1 := ⟨n - 1, by omega⟩
    show mK_muster_71b (mK_muster_71 n) (mK_muster_135 fuel) (nI c) (nI s) b (nI i) N = _
    unfold mK_muster_71b
    have ix : (24 : Int32) * nI s + nI i = nI (24 * s + i) := by rw [show (24 : Int32) = nI 24 from rfl, pk_mul, nI_add]
    rw [ixx_nI s4 (by decide), e65, if_pos (nI_lt (by omega) (by omega)), ix, ixx_nI (show 24 * s + i < 96 by omega) (by decide), K_in_eq]
    simp only [Option.bind_some, nI_1, bI_ite]
    have ih := fun b' hb' => K_71 (c := c) s4 hm e65 d (i + 1) n b' (by omega) (by omega) hb'
    rw [ih 0 (.inl rfl), ih 1 (.inr rfl), if_pos (c := (0 : Int32) = 0 ∨ allW (fun k => N 66 0 0 (24 * s + k)) (-1) 99 d (i + 1) = 0) (.inl rfl), allW_s]
    rcases hb with rfl | rfl
    · rw [if_pos rfl, if_pos (.inl rfl)]
    · rw [if_neg (by decide)]
      by_cases z : -1 ≤ N 66 0 0 (24 * s + i) ∧ N 66 0 0 (24 * s + i) ≤ 99
      · rw [if_pos z, if_pos z]
      · rw [if_neg z, if_neg z, if_pos (.inr rfl)]
def mkM (M : Mem) (c : Nat) (g : Nat → Int32) : Mem := fun r w' i k => if r = 7 ∧ i = c then g k else M r w' i k
theorem mkM_o {M : Mem} {c : Nat} {g : Nat → Int32} {r w i k : Nat} (h : ¬ (r = 7 ∧ i = c)) : mkM M c g r w i k = M r w i k := if_neg h
theorem mkM_i {M : Mem} {c : Nat} {g : Nat → Int32} {w k : Nat} : mkM M c g 7 w c k = g k := if_pos ⟨rfl, rfl⟩
/-- a row whose marks are others -/
theorem RW.marks {B : Nat} {M : Mem} {w : Nat} {f f' : Row} {c : Nat} (h : RW B M w f) (hc : c < cn f 2) (hf : ∀ k, ¬ (100 + 24 * c + 10 ≤ k ∧ k < 124 + 24 * c) → f' k = f k) : RW B (mkM M c (fun k => f' (100 + 24 * c + 10 + k))) w f' := by
  have b2 := h.c.b2
  obtain ⟨⟨a0, a1, a2, a3, a8, a9, a11⟩, h2, h3, h4, h5, h6, h7, h8⟩ := h.p c hc
  have e : ∀ k, k < 10 → f' (100 + 24 * c + k) = f (100 + 24 * c + k) := fun k hk => hf _ (by omega)
  have e' : f' (100 + 24 * c) = f (100 + 24 * c) := e 0 (by decide)
  have e0 : cn f' 0 = cn f 0 := cn_same (hf 0 (by omega))
  refine h.compAt (c := c) (Nat.le_refl _) (fun r i k _ _ q => mkM_o (by omega)) (fun k hk => hf k (by omega)) (by omega) ?_
  unfold XP1
  rw [e', e 1 (by decide), e 2 (by decide), e 3 (by decide), e 4 (by decide), e 5 (by decide), e 6 (by decide), e 7 (by decide), e 8 (by decide), e 9 (by decide), e0]
  refine ⟨⟨?_, ?_, ?_, ?_, ?_, ?_, ?_⟩, ?_, ?_, fun j hj => ?_, h5, h6, h7, h8⟩
  · rw [mkM_o (by omega)]; exact a0
  · rw [mkM_o (by omega)]; exact a1
  · rw [mkM_o (by omega)]; exact a2
  · rw [mkM_o (by omega)]; exact a3
  · rw [mkM_o (by omega)]; exact a8
  · rw [mkM_o (by omega)]; exact a9
  · rw [mkM_o (by omega)]; exact a11
  · rw [mkM_o (by omega), mkM_o (by omega)]; exact h2
  · rw [mkM_o (by omega)]; exact h3
  · exact mkM_i
/-- a company has mustered -/
theorem RW.mustered {B B' : Nat} {M M' : Mem} {w : Nat} {f f' : Row} {c many : Nat} (h : RW B M w f) (hB : B ≤ B') (hc : c < cn f 2) (hM : ∀ r i k, r ≠ 17 → r < 18 → ¬ ((r = 6 ∧ i = c ∧ 8 ≤ k ∧ k < 12) ∨ (r = 7 ∧ i = c)) → M' r w i k = M r w i k) (hf : ∀ k, ¬ (100 + 24 * c + 6 ≤ k ∧ k < 124 + 24 * c) → f' k = f k) (e8 : M' 6 w c 8 = f' (100 + 24 * c + 6)) (e9 : M' 6 w c 9 = f' (100 + 24 * c + 7)) (e10 : M' 6 w c 10 = f' (100 + 24 * c + 8)) (e11 : M' 6 w c 11 = nI many) (f9 : f' (100 + 24 * c + 9) = nI many) (hm : many ≤ 12) (hk : ∀ j, j < many → M' 7 w c j = f' (100 + 24 * c + 10 + j)) (d1 : isN (f' (100 + 24 * c + 7)) 3001) (d2 : isN (f' (100 + 24 * c + 8)) (cn f 0)) : RW B' M' w f' := by
  have b2 := h.c.b2
  obtain ⟨⟨a0, a1, a2, a3, a8, a9, a11⟩, h2, h3, h4, h5, h6, h7, h8⟩ := h.p c hc
  have e : ∀ k, k < 6 → f' (100 + 24 * c + k) = f (100 + 24 * c + k) := fun k hk => hf _ (by omega)
  have e' : f' (100 + 24 * c) = f (100 + 24 * c) := e 0 (by decide)
  have e0 : cn f' 0 = cn f 0 := cn_same (hf 0 (by omega))
  have m : ∀ k, k < 6 → M' 6 w c k = M 6 w c k := fun k hk => hM 6 c k (by decide) (by decide) (by omega)
  refine h.compAt (c := c) hB (fun r i k q1 q2 q => hM r i k q1 q2 (by omega)) (fun k hk => hf k (by omega)) (by omega) ?_
  unfold XP1
  rw [e', e 1 (by decide), e 2 (by decide), e 3 (by decide), e 4 (by decide), e 5 (by decide), e0, cn_nI f9 (by omega), m 0 (by decide), m 1 (by decide), m 2 (by decide), m 3 (by decide), m 4 (by decide), m 5 (by decide)]
  exact ⟨⟨a0, a1, a2, a3, e8, e9, e11.trans f9.symm⟩, h2, fun _ => e10, hk, h5.mono (by omega), h6, by rw [f9]; exact ⟨many, by omega, rfl⟩, .inr ⟨d1, d2⟩⟩
theorem s_muster {B : Nat} {M N : Mem} (h : Rel B M N) (x1 x2 : Int32) : Sim (Rel (B + 1)) (mF_muster x1 x2 M) (mK_muster x1 x2 N) := by
  unfold mF_muster mK_muster mK_musterb
  simp only [F_isCompany_eq h.1.c, K_isCompany_eq, F_isSheet_eq, K_isSheet_eq, S_missing_eq, Option.bind_some, bI_ite, bindE]
  refine Sim.ite (fun hp => ?_) (fun _ => Sim.f1 h)
  refine Sim.ite (fun hq => ?_) (fun _ => Sim.f1 h)
  obtain ⟨c, hc, rfl⟩ := h.1.c.in2 hp
  obtain ⟨s, s4, rfl⟩ := in_lit0 (b := 3) (by decide) hq
  have b2 := h.1.c.b2
  have b6 := h.1.c.b6
  have c5 : c < 5 := by omega
  obtain ⟨many, hsh⟩ := h.2.2.sheet s4
  obtain ⟨v1, v2, v3, v4⟩ := hsh
  obtain ⟨⟨a0, a1, a2, a3, a8, a9, a11⟩, h2, h3, h4, h5, h6, ⟨old, hold, e9⟩, h8⟩ := h.1.p c hc
  have ecn : cn (N 41 0 0) (100 + 24 * c + 9) = old := cn_nI e9 (by omega)
  rw [ixx_nI s4 (by decide), ixx_nI s4 (by decide), ixx_nI c5 (by decide), (h.2.2.2.2.1 s s4).1]
  refine Sim.ite (fun _ => Sim.f2 h) (fun _ => ?_)
  simp only [C_marches_eq, K_own_2 c5, Option.bind_some, bI_ite, a3, v1, v2, ixx_nI s4 (show 4 < 2 ^ 31 by decide)]
  refine Sim.ite (fun _ => Sim.f3 h) (fun hm0 => ?_)
  have k71 := fun b hb => K_71 (c := c) (N := N) s4 v3 v2 many 0 fuel b (by omega) (by unfold fuel; omega) hb
  have k1 : mK_muster_71 fuel (nI c) (nI s) 1 0 N = _ := k71 1 (.inr rfl)
  have k0 : mK_muster_71 fuel (nI c) (nI s) 0 0 N = _ := k71 0 (.inl rfl)
  rw [k1, k0, if_pos (c := (0 : Int32) = 0 ∨ allW (fun k => N 66 0 0 (24 * s + k)) (-1) 99 many 0 = 0) (.inl rfl)]
  refine Sim.ite (fun hle => ?_) (fun _ => Sim.f5 h)
  have m12 : many ≤ 12 := (nI_leI (b := 12) (by omega) (by decide)).mp hle
  rw [S_allWithin_eq ⟨v1, v2, v3, v4⟩]
  simp only [Option.bind_some]
  by_cases za : allW (fun k => N 66 0 0 (24 * s + k)) (-1) 99 many 0 = 0
  · rw [if_pos za, if_pos (.inr za)]
    exact Sim.f5 h
  rw [if_neg za, if_neg (by rintro (z | z); exact absurd z (by decide); exact za z)]
  -- the marks
  obtain ⟨N1, n1, n2, n3⟩ := K_135 (f := N 41 0 0) (g := fun k => N 66 0 0 (24 * s + k)) (old := old) c5 s4 m12 (by omega) many 0 fuel N (by omega) (by unfold fuel; omega) v2 (fun k _ => rfl) e9 (fun j _ _ => rfl)
  obtain ⟨M1, m1, m2, m3, m4, m5⟩ := C_show (w := 0) (c := c) (s := s) (f := N 41 0 0) (g := fun k => N 66 0 0 (24 * s + k)) (old := old) m12 (by omega) 12 0 fuel M (by omega) (by unfold fuel; omega) v1 v4 (a11.trans e9) (fun j _ hj => h4 j (by omega))
  have n1 : mK_muster_135 fuel (nI c) (nI s) 0 0 N = _ := n1
  have m1 : mC_show 0 c s M = some M1 := m1
  rw [n1, m1]
  simp only [Option.bind_some]
  have e10 : M1 1 0 0 0 = N 41 0 0 6 := by rw [m2 1 0 0 0 (by omega)]; exact h.1.c.e6
  have e63 : up M1 6 0 c 9 (M1 1 0 0 0) 6 0 c 3 = N 41 0 0 (100 + 24 * c + 2) := by rw [up_ne (by omega), m2 6 0 c 3 (by omega)]; exact a3
  rw [e63, e10]
  have htown : isN (N 41 0 0 (100 + 24 * c + 2)) (cn (N 41 0 0) 0) := by
    rcases h6 with q | q
    · exact q
    · rw [q.1] at hm0
      exact absurd (by decide) hm0
  have hday : isN (N 41 0 0 6) 3001 := ⟨cn (N 41 0 0) 6, by omega, h.1.c.n6⟩
  generalize hM3 : up (up M1 6 0 c 9 (N 41 0 0 6)) 6 0 c 10 (N 41 0 0 (100 + 24 * c + 2)) = M3
  have o3 : ∀ r w i k, ¬ (w = 0 ∧ i = c ∧ (r = 7 ∨ (r = 6 ∧ 9 ≤ k ∧ k < 12))) → M3 r w i k = M r w i k := fun r w i k q => by rw [← hM3, up_ne (by omega), up_ne (by omega), m2 r w i k (by omega)]
  have o39 : M3 6 0 c 9 = N 41 0 0 6 := by rw [← hM3, up_ne (by omega), up_eq]
  have o310 : M3 6 0 c 10 = N 41 0 0 (100 + 24 * c + 2) := by rw [← hM3, up_eq]
  have o311 : M3 6 0 c 11 = nI many := by rw [← hM3, up_ne (by omega), up_ne (by omega), m3]
  have o37 : ∀ j, j < many → M3 7 0 c j = N1 41 0 0 (100 + 24 * c + 10 + j) := fun j hj => by rw [← hM3, upR (by decide), upR (by decide), m5 j (by omega) (by omega), n3 j (by omega) hj]
  have n6 : N1 41 0 0 6 = N 41 0 0 6 := n2 41 0 0 6 (by omega)
  have nt : N1 41 0 0 (100 + 24 * c + 2) = N 41 0 0 (100 + 24 * c + 2) := n2 41 0 0 _ (by omega)
  -- the two relations on the way
  have ra : RW B M3 0 (upd (upd (upd (N1 41 0 0) (100 + 24 * c + 9) (nI many)) (100 + 24 * c + 7) (N 41 0 0 6)) (100 + 24 * c + 8) (N 41 0 0 (100 + 24 * c + 2))) := by
    refine h.1.mustered (c := c) (many := many) (Nat.le_refl _) hc (fun r i k _ _ q => o3 r 0 i k (by omega)) (fun k hk => ?_) ?_ ?_ ?_ o311 ?_ m12 (fun j hj => ?_) ?_ ?_
    · rw [pk_un (by omega), pk_un (by omega), pk_un (by omega)]
      exact n2 41 0 0 k (by omega)
    · rw [pk_un (by omega), pk_un (by omega), pk_un (by omega), o3 6 0 c 8 (by omega), n2 41 0 0 _ (by omega)]
      exact a8
    · rw [pk_un (by omega), pk_us]
      exact o39
    · rw [pk_us]
      exact o310
    · rw [pk_un (by omega), pk_un (by omega), pk_us]
    · rw [pk_un (by omega), pk_un (by omega), pk_un (by omega)]
      exact o37 j hj
    · rw [pk_un (by omega), pk_us]
      exact hday
    · rw [pk_us]
      exact htown
  have rb := h.1.marks (f' := N1 41 0 0) hc (fun k hk => n2 41 0 0 k (by omega))
  obtain ⟨v, M4, N4, g1, g2, g3⟩ := mshown c5 s4 m12 many 0 fuel fuel 0 M3 N1 _ ra rb (fun k hk => by rw [pk_un (by omega), pk_un (by omega), pk_un (by omega)]) o37 o311 (by rw [n2 65 0 0 s (by omega)]; exact v2) (by omega) (by unfold fuel; omega) (by unfold fuel; omega)
  have g1 : mW_countShown 0 (nI c) M3 = some (v, M4) := by
    unfold mW_countShown mW_countShownb
    rw [ixx_nI c5 (by decide)]
    exact g1
  have g2 : mK_muster_225 fuel (nI c) (nI s) 0 0 N1 = _ := g2
  rw [g1, g2]
  unfold mT
  simp only [Option.bind_some, K_sets_9 c5, K_sets_6 c5, K_sets_7 c5, K_own_2 c5, K_sets_8 c5]
  have x65 : N4 65 0 0 s = nI many := by rw [g3.2 65 0 0 s (by decide) (by decide), n2 65 0 0 s (by omega)]; exact v2
  have x6 : up (up N4 41 0 0 (100 + 24 * c + 9) (N4 65 0 0 s)) 41 0 0 (100 + 24 * c + 6) v 41 0 0 6 = N 41 0 0 6 := by
    rw [up_ne (by omega), up_ne (by omega), g3.row, n6]
  rw [x6, x65]
  have x2 : up (up (up N4 41 0 0 (100 + 24 * c + 9) (nI many)) 41 0 0 (100 + 24 * c + 6) v) 41 0 0 (100 + 24 * c + 7) (N 41 0 0 6) 41 0 0 (100 + 24 * c + 2) = N 41 0 0 (100 + 24 * c + 2) := by
    rw [up_ne (by omega), up_ne (by omega), up_ne (by omega), g3.row, nt]
  rw [x2, up_eq]
  refine Sim.ret (h.world (by omega) ?_ (fun r w i k q1 _ _ _ q => by rw [up_ne (by omega), g3.1 r w i k (by omega), o3 r w i k (by omega)]) (fun r k q => by rw [up_ne (by omega), up_ne (by omega), up_ne (by omega), up_ne (by omega), g3.2 r 0 0 k (by omega) (by omega), n2 r 0 0 k (by omega)]))
  rw [up_row, up_row, up_row, up_row, g3.row]
  refine h.1.mustered (c := c) (many := many) (by omega) hc (fun r i k q1 _ q => by rw [up_ne (by omega), g3.1 r 0 i k (by omega), o3 r 0 i k (by omega)]) (fun k hk => ?_) ?_ ?_ ?_ ?_ ?_ m12 (fun j hj => ?_) ?_ ?_
  · rw [pk_un (by omega), pk_un (by omega), pk_un (by omega), pk_un (by omega)]
    exact n2 41 0 0 k (by omega)
  · rw [up_eq, pk_un (by omega), pk_un (by omega), pk_us]
  · rw [up_ne (by omega), g3.1 6 0 c 9 (by omega), o39, pk_un (by omega), pk_us]
  · rw [up_ne (by omega), g3.1 6 0 c 10 (by omega), o310, pk_us]
  · rw [up_ne (by omega), g3.1 6 0 c 11 (by omega), o311]
  · rw [pk_un (by omega), pk_un (by omega), pk_un (by omega), pk_us]
  · rw [upR (by decide), g3.1 7 0 c j (by omega), pk_un (by omega), pk_un (by omega), pk_un (by omega), pk_un (by omega)]
    exact o37 j hj
  · rw [pk_un (by omega), pk_us]
    exact hday
  · rw [pk_us]
    exact htown
