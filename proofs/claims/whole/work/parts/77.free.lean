/-! ===== free ===== -/
/-- a bond's last day, as told -/
def enI (f : Row) (x : Int32) (i : Nat) : Int32 := if x = 0 then f (1056 + 14 * i + 3) else if f (1056 + 14 * i + 11) = 0 then (if f (1056 + 14 * i + 3) < f 6 then f (1056 + 14 * i + 3) else f (1056 + 14 * i + 3) + 30) else f (1056 + 14 * i + 3)
def enN (f : Row) (x : Int32) (i : Nat) : Nat := (enI f x i).toNatClampNeg
def fiN (f : Row) (i : Nat) : Nat := cn f (1056 + 14 * i + 2)
def selC (f : Row) (c : Int32) (i : Nat) : Bool := decide ((f (1056 + 14 * i) = 1 ∨ f (1056 + 14 * i) = 2) ∧ f (1056 + 14 * i + 1) = c)
/-- a bond of those has a day -/
def cov1 (f : Row) (c x : Int32) (d i : Nat) : Prop := selC f c i = true ∧ fiN f i ≤ d ∧ d ≤ enN f x i
def cov (f : Row) (c x : Int32) (d : Nat) : Prop := ∃ i, i < cn f 5 ∧ cov1 f c x d i
theorem RW.ends {B : Nat} {M : Mem} {w : Nat} {f : Row} (h : RW B M w f) (c x : Int32) {i : Nat} (hi : i < cn f 5) (hs : selC f c i = true) : f (1056 + 14 * i + 2) = nI (fiN f i) ∧ enI f x i = nI (enN f x i) ∧ fiN f i ≤ enN f x i ∧ enN f x i ≤ 3030 := by
  obtain ⟨q1, q2, q3, q4, q5, q6, q7, q8, q9⟩ := h.b i hi
  have hc := of_decide_eq_true hs
  obtain ⟨⟨a, ha, ea⟩, ⟨b, hb, eb⟩, hle⟩ := q4.resolve_left (fun z => (q5 hc.1).2 z.1)
  have hf : fiN f i = a := cn_nI ea (by omega)
  have hab : a ≤ b := by
    rw [ea, eb] at hle
    exact (nI_leI (by omega) (by omega)).mp hle
  have he : enI f x i = nI b ∨ enI f x i = nI (b + 30) := by
    unfold enI
    rw [eb]
    have e30 : nI b + 30 = nI (b + 30) := nI_add b 30
    rw [e30]
    split
    · exact .inl rfl
    · split
      · split
        · exact .inl rfl
        · exact .inr rfl
      · exact .inl rfl
  rcases he with e | e
  · have : enN f x i = b := by unfold enN; rw [e, nI_clamp (by omega)]
    rw [hf, this]
    exact ⟨ea, e, hab, by omega⟩
  · have : enN f x i = b + 30 := by unfold enN; rw [e, nI_clamp (by omega)]
    rw [hf, this]
    exact ⟨ea, e, by omega, by omega⟩
/-- how far one is bound -/
def buF (f : Row) (c x : Int32) (dy : Nat) : Nat → Nat → Int32 → Int32
  | 0, _, u => u
  | d + 1, i, u => buF f c x dy d (i + 1) (if selC f c i = true ∧ (f (1056 + 14 * i + 2) ≤ nI dy ∧ nI dy ≤ enI f x i) then (if u < enI f x i then enI f x i else u) else u)
theorem buF_s (f : Row) (c x : Int32) (dy d i : Nat) (u : Int32) : buF f c x dy (d + 1) i u = buF f c x dy d (i + 1) (if selC f c i = true ∧ (f (1056 + 14 * i + 2) ≤ nI dy ∧ nI dy ≤ enI f x i) then (if u < enI f x i then enI f x i else u) else u) := rfl
theorem W_boundUntil_6 {B : Nat} {M : Mem} {w : Nat} {f : Row} (h : RW B M w f) (c x : Int32) (dy : Nat) : ∀ (d i n : Nat) (u : Int32), i + d = cn f 5 → d < n → mW_boundUntil_6 n w c (nI dy) x u (nI i) M = some (buF f c x dy d i u, M) := by
  have b5 := h.c.b5
  intro d
  induction d with
  | zero =>
    intro i n u hi hn
    obtain ⟨m, rfl⟩ : ∃ m, n = m + 1 := ⟨n - 1, by omega⟩
    show mW_boundUntil_6b (mW_boundUntil_53 (mW_boundUntil_6 m)) w c (nI dy) x u (nI i) M = _
    unfold mW_boundUntil_6b
    rw [h.c.e5, h.c.n5, if_neg (nI_nlt (by omega) (by omega))]
    rfl
  | succ d ih =>
    intro i n u hi hn
    obtain ⟨m, rfl⟩ : ∃ m, n = m + 1 := ⟨n - 1, by omega⟩
    show mW_boundUntil_6b (mW_boundUntil_53 (mW_boundUntil_6 m)) w c (nI dy) x u (nI i) M = _
    unfold mW_boundUntil_6b
    have q1 := (h.b i (by omega)).1
    have q10 : M 15 w i 0 = f (1056 + 14 * i) := q1 0 (by decide)
    have ih' := fun u => ih (i + 1) m u (by omega) (by omega)
    rw [h.c.e5, h.c.n5, if_pos (nI_lt (by omega) (by omega)), ixx_nI (by omega) (by decide)]
    simp only [mW_boundUntil_53, mW_boundUntil_53b, B_isContractOf_eq, Option.bind_some, bI_ite, if_true, show ((1 : Int32) = 0) = False from eq_false (by decide), if_false, nI_1, q10, q1 1 (show 1 < 12 by decide), q1 2 (show 2 < 12 by decide), q1 3 (show 3 < 12 by decide), q1 11 (show 11 < 12 by decide), h.c.e6]
    rw [buF_s]
    have hsel : selC f c i = true ↔ ((f (1056 + 14 * i) = 1 ∨ f (1056 + 14 * i) = 2) ∧ f (1056 + 14 * i + 1) = c) := by unfold selC; exact decide_eq_true_iff
    have key : ∀ e : Int32, (if (f (1056 + 14 * i) = 1 ∨ f (1056 + 14 * i) = 2) ∧ f (1056 + 14 * i + 1) = c then (if f (1056 + 14 * i + 2) ≤ nI dy then (if nI dy ≤ e then mW_boundUntil_6 m w c (nI dy) x (if u < e then e else u) (nI (i + 1)) M else mW_boundUntil_6 m w c (nI dy) x u (nI (i + 1)) M) else mW_boundUntil_6 m w c (nI dy) x u (nI (i + 1)) M) else mW_boundUntil_6 m w c (nI dy) x u (nI (i + 1)) M) = some (buF f c x dy d (i + 1) (if selC f c i = true ∧ (f (1056 + 14 * i + 2) ≤ nI dy ∧ nI dy ≤ e) then (if u < e then e else u) else u), M) := by
      intro e
      simp only [ih']
      by_cases z1 : (f (1056 + 14 * i) = 1 ∨ f (1056 + 14 * i) = 2) ∧ f (1056 + 14 * i + 1) = c
      · by_cases z2 : f (1056 + 14 * i + 2) ≤ nI dy
        · by_cases z3 : nI dy ≤ e
          · have z4 : selC f c i = true ∧ (f (1056 + 14 * i + 2) ≤ nI dy ∧ nI dy ≤ e) := ⟨hsel.mpr z1, z2, z3⟩
            simp only [if_pos z1, if_pos z2, if_pos z3, if_pos z4]
          · have z4 : ¬ (selC f c i = true ∧ (f (1056 + 14 * i + 2) ≤ nI dy ∧ nI dy ≤ e)) := fun q => z3 q.2.2
            simp only [if_pos z1, if_pos z2, if_neg z3, if_neg z4]
        · have z4 : ¬ (selC f c i = true ∧ (f (1056 + 14 * i + 2) ≤ nI dy ∧ nI dy ≤ e)) := fun q => z2 q.2.1
          simp only [if_pos z1, if_neg z2, if_neg z4]
      · have z4 : ¬ (selC f c i = true ∧ (f (1056 + 14 * i + 2) ≤ nI dy ∧ nI dy ≤ e)) := fun q => z1 (hsel.mp q.1)
        simp only [if_neg z1, if_neg z4]
    unfold enI
    by_cases y1 : x = 0
    · simp only [if_pos y1]; exact key _
    · simp only [if_neg y1]
      by_cases y2 : f (1056 + 14 * i + 11) = 0
      · simp only [if_pos y2]
        by_cases y3 : f (1056 + 14 * i + 3) < f 6
        · simp only [if_pos y3]; exact key _
        · simp only [if_neg y3]; exact key _
      · simp only [if_neg y2]; exact key _
theorem buF_spec {B : Nat} {M : Mem} {w : Nat} {f : Row} (h : RW B M w f) (c x : Int32) {dy : Nat} (hdy : dy < 2 ^ 30) : ∀ (d i : Nat) (u : Int32), i + d = cn f 5 → (u = -1 ∨ ∃ j, j < cn f 5 ∧ cov1 f c x dy j ∧ u = nI (enN f x j)) → (buF f c x dy d i u = -1 ∧ u = -1 ∧ ∀ j, i ≤ j → j < cn f 5 → ¬ cov1 f c x dy j) ∨ ∃ j, j < cn f 5 ∧ cov1 f c x dy j ∧ buF f c x dy d i u = nI (enN f x j) := by
  intro d
  induction d with
  | zero =>
    intro i u hi hu
    rcases hu with hu | hu
    · exact .inl ⟨hu, hu, fun j h1 h2 => by omega⟩
    · exact .inr hu
  | succ d ih =>
    intro i u hi hu
    rw [buF_s]
    by_cases hs : selC f c i = true
    · obtain ⟨e1, e2, e3, e4⟩ := h.ends c x (by omega) hs
      by_cases z : f (1056 + 14 * i + 2) ≤ nI dy ∧ nI dy ≤ enI f x i
      · have hz : selC f c i = true ∧ (f (1056 + 14 * i + 2) ≤ nI dy ∧ nI dy ≤ enI f x i) := ⟨hs, z⟩
        rw [if_pos hz]
        have hc : cov1 f c x dy i := by
          rw [e1, e2] at z
          exact ⟨hs, (nI_leI (by omega) (by omega)).mp z.1, (nI_leI (by omega) (by omega)).mp z.2⟩
        have step := ih (i + 1) (if u < enI f x i then enI f x i else u) (by omega) (by
          by_cases y : u < enI f x i
          · rw [if_pos y]
            exact .inr ⟨i, by omega, hc, e2⟩
          · rw [if_neg y]
            exact hu)
        rcases step with ⟨s1, s2, s3⟩ | s
        · exfalso
          by_cases y : u < enI f x i
          · rw [if_pos y, e2] at s2
            exact nI_pos (n := enN f x i) (by omega) (by rw [s2]; decide)
          · rw [if_neg y] at s2
            rw [s2, e2] at y
            exact y (by
              rw [fa_lt, nI_toInt (by omega)]
              have : (-1 : Int32).toInt = -1 := rfl
              omega)
        · exact .inr s
      · have hz : ¬ (selC f c i = true ∧ (f (1056 + 14 * i + 2) ≤ nI dy ∧ nI dy ≤ enI f x i)) := fun q => z q.2
        rw [if_neg hz]
        rcases ih (i + 1) u (by omega) hu with ⟨s1, s2, s3⟩ | s
        · refine .inl ⟨s1, s2, fun j h1 h2 => ?_⟩
          by_cases e : j = i
          · subst e
            intro q
            refine z ?_
            rw [e1, e2]
            exact ⟨nI_le q.2.1 (by omega), nI_le q.2.2 (by omega)⟩
          · exact s3 j (by omega) h2
        · exact .inr s
    · have hz : ¬ (selC f c i = true ∧ (f (1056 + 14 * i + 2) ≤ nI dy ∧ nI dy ≤ enI f x i)) := fun q => hs q.1
      rw [if_neg hz]
      rcases ih (i + 1) u (by omega) hu with ⟨s1, s2, s3⟩ | s
      · refine .inl ⟨s1, s2, fun j h1 h2 => ?_⟩
        by_cases e : j = i
        · subst e
          exact fun q => hs q.1
        · exact s3 j (by omega) h2
      · exact .inr s
theorem ct_one {n i : Nat} (h : i < n) : fb_ct (fun k => decide (k = i)) n = 1 := by
  have := fb_ct_upd (fun _ => false) true h
  have z : fb_ct (fun _ => false) n = 0 := fb_ct_zero.mpr fun _ _ => rfl
  have e : fb_ct (fun k => if k = i then true else false) n = fb_ct (fun k => decide (k = i)) n := fb_ct_cong fun k _ => by
    by_cases q : k = i <;> simp [q]
  rw [z, e] at this
  simpa using this
/-- fewer are left behind a later day -/
theorem ct_less {p q : Nat → Bool} {n i : Nat} (hi : i < n) (h : ∀ k, k < n → p k = true → q k = true) (h1 : q i = true) (h2 : p i = false) : fb_ct p n < fb_ct q n := by
  have a := fb_ct_or (p := p) (q := fun k => decide (k = i)) (n := n) (fun k hk z => by
    have e := of_decide_eq_true z.2
    subst e
    rw [h2] at z
    cases z.1)
  have b := fb_ct_sub (p := fun k => p k || decide (k = i)) (q := q) (n := n) (fun k hk z => by
    simp only [Bool.or_eq_true] at z
    rcases z with z | z
    · exact h k hk z
    · have e := of_decide_eq_true z
      subst e
      exact h1)
  rw [a, ct_one hi] at b
  omega
theorem W_firstFree_8 {B : Nat} {M : Mem} {w : Nat} {f : Row} (h : RW B M w f) (c x : Int32) {D : Nat} : ∀ (k tn n d : Nat), tn + k = 24 → k < n → fb_ct (fun j => selC f c j && decide (d ≤ enN f x j)) (cn f 5) ≤ k → D ≤ d → d ≤ 3031 → (∀ y, D ≤ y → y < d → cov f c x y) → ∃ R, mW_firstFree_8 n w c x (nI d) (nI tn) M = some (nI R, M) ∧ D ≤ R ∧ R ≤ 3031 ∧ (∀ y, D ≤ y → y < R → cov f c x y) ∧ ¬ cov f c x R := by
  have b5 := h.c.b5
  intro k
  induction k with
  | zero =>
    intro tn n d ht hn hct hD h31 hcov
    obtain ⟨n, rfl⟩ : ∃ k, n = k + 1 := ⟨n - 1, by omega⟩
    refine ⟨d, ?_, hD, h31, hcov, ?_⟩
    · show mW_firstFree_8b (mW_firstFree_8 n) w c x (nI d) (nI tn) M = _
      unfold mW_firstFree_8b
      rw [if_neg (show ¬ nI tn < (24 : Int32) from nI_nlt (b := 24) (by omega) (by omega))]
    · rintro ⟨i, hi, h1, h2, h3⟩
      have := fb_ct_zero.mp (Nat.le_zero.mp hct) i hi
      simp [h1, h3] at this
  | succ k ih =>
    intro tn n d ht hn hct hD h31 hcov
    obtain ⟨n, rfl⟩ : ∃ k, n = k + 1 := ⟨n - 1, by omega⟩
    show ∃ R, mW_firstFree_8b (mW_firstFree_8 n) w c x (nI d) (nI tn) M = some (nI R, M) ∧ _
    unfold mW_firstFree_8b mW_boundUntil mW_boundUntilb
    have z := W_boundUntil_6 h c x d (cn f 5) 0 fuel (-1) (by omega) (by unfold fuel; omega)
    rw [if_pos (show nI tn < (24 : Int32) from nI_lt (b := 24) (by omega) (by omega)), show mW_boundUntil_6 fuel w c (nI d) x (-1) 0 M = _ from z]
    simp only [Option.bind_some]
    rcases buF_spec h c x (dy := d) (by omega) (cn f 5) 0 (-1) (by omega) (.inl rfl) with ⟨s1, _, s3⟩ | ⟨j, hj, hc, s⟩
    · rw [s1, if_pos (by decide)]
      exact ⟨d, rfl, hD, h31, hcov, fun q => by obtain ⟨i, hi, q⟩ := q; exact s3 i (by omega) hi q⟩
    · obtain ⟨e1, e2, e3, e4⟩ := h.ends c x hj hc.1
      rw [s, if_neg (nI_pos (by omega)), nI_1, nI_1]
      refine ih (tn + 1) n (enN f x j + 1) (by omega) (by omega) ?_ (by have := hc.2.2; omega) (by omega) (fun y h1 h2 => ?_)
      · have hlt := ct_less (p := fun j' => selC f c j' && decide (enN f x j + 1 ≤ enN f x j')) (q := fun j' => selC f c j' && decide (d ≤ enN f x j')) hj (fun k _ z => by
          simp only [Bool.and_eq_true, decide_eq_true_eq] at z ⊢
          exact ⟨z.1, by have := hc.2.2; omega⟩) (by simp [hc.1, hc.2.2]) (by simp)
        omega
      · by_cases e : y < d
        · exact hcov y h1 e
        · exact ⟨j, hj, hc.1, by have := hc.2.1; omega, by omega⟩
/-- one round of the reference -/
def frF (f : Row) (c x : Int32) : Nat → Nat → Nat × Bool → Nat × Bool
  | 0, _, s => s
  | d + 1, i, s => frF f c x d (i + 1) (if selC f c i = true ∧ fiN f i ≤ s.1 ∧ s.1 ≤ enN f x i then (enN f x i + 1, true) else s)
theorem frF_s (f : Row) (c x : Int32) (d i : Nat) (s : Nat × Bool) : frF f c x (d + 1) i s = frF f c x d (i + 1) (if selC f c i = true ∧ fiN f i ≤ s.1 ∧ s.1 ≤ enN f x i then (enN f x i + 1, true) else s) := rfl
def fl (b : Bool) : Int32 := if b = true then 1 else 0
theorem K_free_43 {B : Nat} {M N : Mem} {w : Nat} (h : RW B M w (N 41 0 0)) (r : Int32 → Int32 → Int32 → Int32 → Mem → Option (Int32 × Mem)) (c x : Int32) : ∀ (d i n : Nat) (s : Nat × Bool), i + d = cn (N 41 0 0) 5 → s.1 ≤ 3031 → d < n → mK_free_43 r n c x (nI s.1) (fl s.2) (nI i) N = r c x (nI (frF (N 41 0 0) c x d i s).1) (fl (frF (N 41 0 0) c x d i s).2) N := by
  have b5 := h.c.b5
  intro d
  induction d with
  | zero =>
    intro i n s hi hs31 hn
    obtain ⟨m, rfl⟩ : ∃ m, n = m + 1 := ⟨n - 1, by omega⟩
    show mK_free_43b r (mK_free_43 r m) (mK_free_114 r (mK_free_43 r m)) c x (nI s.1) (fl s.2) (nI i) N = _
    unfold mK_free_43b
    rw [h.c.n5, if_neg (nI_nlt (by omega) (by omega))]
    rfl
  | succ d ih =>
    intro i n s hi hs31 hn
    obtain ⟨m, rfl⟩ : ∃ m, n = m + 1 := ⟨n - 1, by omega⟩
    show mK_free_43b r (mK_free_43 r m) (mK_free_114 r (mK_free_43 r m)) c x (nI s.1) (fl s.2) (nI i) N = _
    unfold mK_free_43b
    have i24 : i < 24 := by omega
    rw [h.c.n5, if_pos (nI_lt (by omega) (by omega))]
    simp only [K_isContract_eq i24, K_bond_1 i24, K_bond_2 i24, K_bond_3 i24, K_bond_11 i24, K_in_eq, mK_free_114, mK_free_114b, Option.bind_some, bI_ite, if_true, show ((1 : Int32) = 0) = False from eq_false (by decide), if_false, Int32.add_zero, nI_1]
    rw [frF_s]
    have hsel : selC (N 41 0 0) c i = true ↔ ((N 41 0 0 (1056 + 14 * i) = 1 ∨ N 41 0 0 (1056 + 14 * i) = 2) ∧ N 41 0 0 (1056 + 14 * i + 1) = c) := by unfold selC; exact decide_eq_true_iff
    by_cases z1 : N 41 0 0 (1056 + 14 * i) = 1 ∨ N 41 0 0 (1056 + 14 * i) = 2
    · by_cases z2 : N 41 0 0 (1056 + 14 * i + 1) = c
      · rw [if_pos z1, if_pos z2]
        have hs := hsel.mpr ⟨z1, z2⟩
        obtain ⟨e1, e2, e3, e4⟩ := h.ends c x (show i < cn (N 41 0 0) 5 by omega) hs
        have key : (if N 41 0 0 (1056 + 14 * i + 2) ≤ nI s.1 ∧ nI s.1 ≤ enI (N 41 0 0) x i then mK_free_43 r m c x (enI (N 41 0 0) x i + 1) 1 (nI (i + 1)) N else mK_free_43 r m c x (nI s.1) (fl s.2) (nI (i + 1)) N) = r c x (nI (frF (N 41 0 0) c x d (i + 1) (if selC (N 41 0 0) c i = true ∧ fiN (N 41 0 0) i ≤ s.1 ∧ s.1 ≤ enN (N 41 0 0) x i then (enN (N 41 0 0) x i + 1, true) else s)).1) (fl (frF (N 41 0 0) c x d (i + 1) (if selC (N 41 0 0) c i = true ∧ fiN (N 41 0 0) i ≤ s.1 ∧ s.1 ≤ enN (N 41 0 0) x i then (enN (N 41 0 0) x i + 1, true) else s)).2) N := by
          have hiff : (N 41 0 0 (1056 + 14 * i + 2) ≤ nI s.1 ∧ nI s.1 ≤ enI (N 41 0 0) x i) ↔ (fiN (N 41 0 0) i ≤ s.1 ∧ s.1 ≤ enN (N 41 0 0) x i) := by
            rw [e1, e2, nI_leI (by omega) (by omega), nI_leI (by omega) (by omega)]
          by_cases z3 : fiN (N 41 0 0) i ≤ s.1 ∧ s.1 ≤ enN (N 41 0 0) x i
          · have z4 : selC (N 41 0 0) c i = true ∧ fiN (N 41 0 0) i ≤ s.1 ∧ s.1 ≤ enN (N 41 0 0) x i := ⟨hs, z3⟩
            rw [if_pos (hiff.mpr z3), if_pos z4, e2, nI_1]
            exact ih (i + 1) m (enN (N 41 0 0) x i + 1, true) (by omega) (by show enN (N 41 0 0) x i + 1 ≤ 3031; omega) (by omega)
          · have z4 : ¬ (selC (N 41 0 0) c i = true ∧ fiN (N 41 0 0) i ≤ s.1 ∧ s.1 ≤ enN (N 41 0 0) x i) := fun q => z3 q.2
            rw [if_neg (fun q => z3 (hiff.mp q)), if_neg z4]
            exact ih (i + 1) m s (by omega) hs31 (by omega)
        unfold enI at key
        by_cases y1 : x = 0
        · simp only [if_pos y1] at key ⊢; exact key
        · simp only [if_neg y1] at key ⊢
          by_cases y2 : N 41 0 0 (1056 + 14 * i + 11) = 0
          · simp only [if_pos y2] at key ⊢
            by_cases y3 : N 41 0 0 (1056 + 14 * i + 3) < N 41 0 0 6
            · simp only [if_pos y3] at key ⊢; exact key
            · simp only [if_neg y3] at key ⊢; exact key
          · simp only [if_neg y2] at key ⊢; exact key
      · have z4 : ¬ (selC (N 41 0 0) c i = true ∧ fiN (N 41 0 0) i ≤ s.1 ∧ s.1 ≤ enN (N 41 0 0) x i) := fun q => z2 (hsel.mp q.1).2
        rw [if_pos z1, if_neg z2, if_neg z4]
        exact ih (i + 1) m s (by omega) hs31 (by omega)
    · have z4 : ¬ (selC (N 41 0 0) c i = true ∧ fiN (N 41 0 0) i ≤ s.1 ∧ s.1 ≤ enN (N 41 0 0) x i) := fun q => z1 (hsel.mp q.1).1
      rw [if_neg z1, if_neg z4]
      exact ih (i + 1) m s (by omega) hs31 (by omega)
theorem frF_spec {B : Nat} {M : Mem} {w : Nat} {f : Row} (h : RW B M w f) (c x : Int32) {D : Nat} : ∀ (d i : Nat) (s : Nat × Bool), i + d = cn f 5 → D ≤ s.1 → s.1 ≤ 3031 → (∀ y, D ≤ y → y < s.1 → cov f c x y) → D ≤ (frF f c x d i s).1 ∧ (frF f c x d i s).1 ≤ 3031 ∧ (∀ y, D ≤ y → y < (frF f c x d i s).1 → cov f c x y) ∧ s.1 ≤ (frF f c x d i s).1 ∧ ((frF f c x d i s).2 = false → (frF f c x d i s).1 = s.1 ∧ s.2 = false ∧ ∀ j, i ≤ j → j < cn f 5 → ¬ cov1 f c x s.1 j) ∧ ((frF f c x d i s).2 = true → s.2 = true ∨ s.1 < (frF f c x d i s).1) := by
  intro d
  induction d with
  | zero =>
    intro i s hi hD h31 hcov
    exact ⟨hD, h31, hcov, Nat.le_refl _, fun q => ⟨rfl, q, fun j h1 h2 => by omega⟩, fun q => .inl q⟩
  | succ d ih =>
    intro i s hi hD h31 hcov
    rw [frF_s]
    by_cases z : selC f c i = true ∧ fiN f i ≤ s.1 ∧ s.1 ≤ enN f x i
    · rw [if_pos z]
      obtain ⟨e1, e2, e3, e4⟩ := h.ends c x (by omega) z.1
      obtain ⟨r1, r2, r3, r4, r5, r6⟩ := ih (i + 1) (enN f x i + 1, true) (by omega) (by show D ≤ enN f x i + 1; omega) (by show enN f x i + 1 ≤ 3031; omega) (fun y h1 h2 => by
        have h2 : y < enN f x i + 1 := h2
        by_cases e : y < s.1
        · exact hcov y h1 e
        · exact ⟨i, by omega, z.1, by omega, by omega⟩)
      refine ⟨r1, r2, r3, ?_, fun q => ?_, fun _ => .inr ?_⟩
      · have r4 : enN f x i + 1 ≤ _ := r4
        omega
      · cases (r5 q).2.1
      · have r4 : enN f x i + 1 ≤ _ := r4
        omega
    · rw [if_neg z]
      obtain ⟨r1, r2, r3, r4, r5, r6⟩ := ih (i + 1) s (by omega) hD h31 hcov
      refine ⟨r1, r2, r3, r4, fun q => ?_, r6⟩
      obtain ⟨t1, t2, t3⟩ := r5 q
      refine ⟨t1, t2, fun j h1 h2 => ?_⟩
      by_cases e : j = i
      · subst e
        exact z
      · exact t3 j (by omega) h2
theorem K_free_25 {B : Nat} {M N : Mem} {w : Nat} (h : RW B M w (N 41 0 0)) (c x : Int32) {D : Nat} : ∀ (k n d : Nat) (b : Bool), 3001 ≤ d + k → k < n → D ≤ d → d ≤ 3031 → (∀ y, D ≤ y → y < d → cov (N 41 0 0) c x y) → (b = false → ¬ cov (N 41 0 0) c x d) → ∃ R, mK_free_25 n c x (nI d) (fl b) N = (if nI R ≤ 3000 then some (nI R, N) else mK_finds 2 N) ∧ D ≤ R ∧ R ≤ 3031 ∧ (∀ y, D ≤ y → y < R → cov (N 41 0 0) c x y) ∧ (R ≤ 3000 → ¬ cov (N 41 0 0) c x R) := by
  have b5 := h.c.b5
  intro k
  induction k with
  | zero =>
    intro n d b hk hn hD h31 hcov hb
    obtain ⟨n, rfl⟩ : ∃ k, n = k + 1 := ⟨n - 1, by omega⟩
    refine ⟨d, ?_, hD, h31, hcov, fun q => by omega⟩
    show mK_free_25b (mK_free_43 (mK_free_25 n) fuel) c x (nI d) (fl b) N = _
    unfold mK_free_25b
    have e : ¬ nI d ≤ (3000 : Int32) := nI_ge (a := 3000) (by omega) (by omega)
    simp only [if_neg e, bindE, ite_self]
  | succ k ih =>
    intro n d b hk hn hD h31 hcov hb
    obtain ⟨n, rfl⟩ : ∃ k, n = k + 1 := ⟨n - 1, by omega⟩
    show ∃ R, mK_free_25b (mK_free_43 (mK_free_25 n) fuel) c x (nI d) (fl b) N = _ ∧ _
    unfold mK_free_25b
    rw [bindE]
    cases b with
    | false =>
      refine ⟨d, ?_, hD, h31, hcov, fun _ => hb rfl⟩
      rw [if_pos (show fl false = 0 from rfl)]
    | true =>
      rw [if_neg (show ¬ fl true = 0 by decide)]
      by_cases e : d ≤ 3000
      · rw [if_pos (show nI d ≤ (3000 : Int32) from nI_le (b := 3000) e (by decide))]
        have z := K_free_43 h (mK_free_25 n) c x (cn (N 41 0 0) 5) 0 fuel (d, false) (by omega) (by show d ≤ 3031; omega) (by unfold fuel; omega)
        obtain ⟨r1, r2, r3, r4, r5, r6⟩ := frF_spec h c x (D := D) (cn (N 41 0 0) 5) 0 (d, false) (by omega) hD (by show d ≤ 3031; omega) hcov
        rw [show mK_free_43 (mK_free_25 n) fuel c x (nI d) 0 0 N = _ from z]
        have r4 : d ≤ _ := r4
        cases hb2 : (frF (N 41 0 0) c x (cn (N 41 0 0) 5) 0 (d, false)).2 with
        | false =>
          obtain ⟨t1, _, t3⟩ := r5 hb2
          have nc : ¬ cov (N 41 0 0) c x (frF (N 41 0 0) c x (cn (N 41 0 0) 5) 0 (d, false)).1 := by
            rintro ⟨j, hj, q⟩
            rw [t1] at q
            exact t3 j (by omega) hj q
          obtain ⟨m, rfl⟩ : ∃ m, n = m + 1 := ⟨n - 1, by omega⟩
          refine ⟨_, ?_, r1, r2, r3, fun _ => nc⟩
          show mK_free_25b (mK_free_43 (mK_free_25 m) fuel) c x _ (fl false) N = _
          unfold mK_free_25b
          rw [bindE, if_pos (show fl false = 0 from rfl)]
        | true =>
          have : d < (frF (N 41 0 0) c x (cn (N 41 0 0) 5) 0 (d, false)).1 := (r6 hb2).resolve_left (by intro q; cases q)
          exact ih n _ true (by omega) (by omega) r1 r2 r3 (fun q => by cases q)
      · have e : ¬ nI d ≤ (3000 : Int32) := nI_ge (a := 3000) (by omega) (by omega)
        refine ⟨d, ?_, hD, h31, hcov, fun q => by omega⟩
        simp only [if_neg e]
theorem s_free {B : Nat} {M N : Mem} (h : Rel B M N) (x1 x2 : Int32) : Sim (Rel (B + 1)) (mF_free x1 x2 M) (mK_free x1 x2 N) := by
  have b5 := h.1.c.b5
  have b6 := h.1.c.b6
  unfold mF_free mK_free mK_freeb mW_firstFree mW_firstFreeb
  simp only [F_isCompany_eq h.1.c, K_isCompany_eq, Option.bind_some, bI_ite, bindE]
  refine Sim.ite (fun hp => ?_) (fun _ => Sim.f1 h)
  rw [h.1.c.e6, h.1.c.n6]
  obtain ⟨R, e1, l1, u1, c1, n1⟩ := W_firstFree_8 h.1 x1 x2 (D := cn (N 41 0 0) 6) 24 0 fuel (cn (N 41 0 0) 6) (by omega) (by unfold fuel; omega) (Nat.le_trans (fb_ct_le _ _) (by omega)) (Nat.le_refl _) (by omega) (fun y h1 h2 => by omega)
  obtain ⟨Q, e2, l2, u2, c2, n2⟩ := K_free_25 h.1 x1 x2 (D := cn (N 41 0 0) 6) 3001 fuel (cn (N 41 0 0) 6) true (by omega) (by unfold fuel; omega) (Nat.le_refl _) (by omega) (fun y h1 h2 => by omega) (fun q => by cases q)
  rw [show mW_firstFree_8 fuel 0 x1 x2 (nI (cn (N 41 0 0) 6)) 0 M = _ from e1, show mK_free_25 fuel x1 x2 (nI (cn (N 41 0 0) 6)) 1 N = _ from e2]
  simp only [Option.bind_some]
  by_cases q : Q ≤ 3000
  · have : R = Q := by
      rcases Nat.lt_trichotomy R Q with z | z | z
      · exact absurd (c2 R l1 z) n1
      · exact z
      · exact absurd (c1 Q l2 z) (n2 q)
    subst this
    have e : nI R ≤ (3000 : Int32) := nI_le (b := 3000) q (by decide)
    rw [if_pos e, if_pos e]
    exact Sim.ret h.up1
  · have : Q ≤ R := by
      rcases Nat.lt_or_ge R Q with z | z
      · exact absurd (c2 R l1 z) n1
      · exact z
    rw [if_neg (show ¬ nI R ≤ (3000 : Int32) from nI_ge (a := 3000) (by omega) (by omega)), if_neg (show ¬ nI Q ≤ (3000 : Int32) from nI_ge (a := 3000) (by omega) (by omega))]
    exact Sim.f2 h
