/-! ===== texts worked out by the class's reader ===== -/
/-- what a sign does -/
def dn (x0 x1 x2 : Int32) : Int32 := if x0 = 38 then (if x1 = 0 then 0 else if x2 = 0 then 0 else 1) else if x0 = 42 then x1 * x2 else if x0 = 43 then x1 + x2 else if x0 = 45 then x1 - x2 else if x0 = 60 then (if x1 < x2 then 1 else 0) else if x0 = 61 then (if x1 = x2 then 1 else 0) else if x0 = 62 then (if x1 ≤ x2 then 0 else 1) else if x0 = 124 then (if x1 = 0 then (if x2 = 0 then 0 else 1) else 1) else (if x2 = 0 then 0 else x1 / x2)
/-- acts, over a row of numbers, the uppermost first -/
def pop1 : List Int32 → Option (List Int32)
  | a :: r => some ((if a = 0 then 1 else 0) :: r)
  | [] => none
def pop2 (g : Int32 → Int32 → Int32) : List Int32 → Option (List Int32)
  | b :: a :: r => some (g a b :: r)
  | _ => none
theorem pop2_c (g : Int32 → Int32 → Int32) (a b : Int32) (r : List Int32) : pop2 g (b :: a :: r) = some (g a b :: r) := rfl
def evS (nm : Nat → Int32) (v : Int32) (st : List Int32) : Option (List Int32) :=
  if v ≤ -100 then (if v = -133 then pop1 st else pop2 (dn (-100 - v)) st) else if v < 0 then ixx (-1 - v) 3 (fun k => some (nm k :: st)) else some (v :: st)
def evO (nm : Nat → Int32) : List Int32 → List Int32 → Option (List Int32)
  | [], st => some st
  | v :: c, st => (evS nm v st).bind (evO nm c)
theorem evO_c (nm : Nat → Int32) (v : Int32) (c st : List Int32) : evO nm (v :: c) st = (evS nm v st).bind (evO nm c) := rfl
theorem evO_n (nm : Nat → Int32) (st : List Int32) : evO nm [] st = some st := rfl
theorem evO_app (nm : Nat → Int32) : ∀ (c d st : List Int32), evO nm (c ++ d) st = (evO nm c st).bind (evO nm d)
  | [], d, st => rfl
  | v :: c, d, st => by
    show (evS nm v st).bind (evO nm (c ++ d)) = ((evS nm v st).bind (evO nm c)).bind (evO nm d)
    cases evS nm v st with
    | none => rfl
    | some s => exact evO_app nm c d s
/-- acts that come to a number -/
def Val (nm : Nat → Int32) (c : List Int32) (x : Int32) : Prop := ∀ st, evO nm c st = some (x :: st)
theorem Val.op {nm : Nat → Int32} {c d : List Int32} {x y : Int32} (hc : Val nm c x) (hd : Val nm d y) {b : Int32} (h1 : -100 - b ≤ -100) (h2 : ¬ -100 - b = -133) (h3 : -100 - (-100 - b) = b) : Val nm (c ++ (d ++ [-100 - b])) (dn b x y) := by
  intro st
  rw [evO_app, hc st, Option.bind_some, evO_app, hd (x :: st), Option.bind_some, evO_c]
  unfold evS
  rw [if_pos h1, if_neg h2, pop2_c, h3, Option.bind_some, evO_n]
theorem Val.not {nm : Nat → Int32} {c : List Int32} {x : Int32} (hc : Val nm c x) : Val nm (c ++ [-133]) (if x = 0 then 1 else 0) := by
  intro st
  rw [evO_app, hc st]
  rfl
theorem Val.num {nm : Nat → Int32} {v : Nat} (h : v < 2 ^ 31) : Val nm [nI v] (nI v) := by
  intro st
  show (evS nm (nI v) st).bind (evO nm []) = _
  unfold evS
  have h0 : ¬ nI v < 0 := nI_pos h
  have h1 : ¬ nI v ≤ -100 := by
    rw [fa_le, nI_toInt h]
    have : (-100 : Int32).toInt = -100 := rfl
    omega
  rw [if_neg h1, if_neg h0]
  rfl
theorem Val.name {nm : Nat → Int32} {k : Nat} (h0 : 1 ≤ k) (h : k ≤ 3) : Val nm [-nI k] (nm (k - 1)) := by
  intro st
  rcases (by omega : k = 1 ∨ k = 2 ∨ k = 3) with rfl | rfl | rfl <;> rfl
/-- the reader's row: what it reads, how far it is, the fault -/
def RC (M0 : Mem) (w ti n use : Nat) : Prop := M0 17 w 0 0 = nI ti ∧ ti < 13 ∧ M0 17 w 0 1 = nI n ∧ n ≤ 50 ∧ M0 17 w 0 2 = nI use ∧ use < 4
def RS (M0 : Mem) (w : Nat) (M : Mem) (p : Nat) (ft : Int32) : Prop := (∀ r w' i k, ¬ (r = 17 ∧ w' = w ∧ i = 0 ∧ (k = 6 ∨ k = 7)) → M r w' i k = M0 r w' i k) ∧ M 17 w 0 6 = nI p ∧ M 17 w 0 7 = ft ∧ p ≤ 50
def nmM (M0 : Mem) (w : Nat) : Nat → Int32 := fun k => M0 17 w 0 (3 + k)
section Reader
variable {M0 : Mem} {w ti n use : Nat}
theorem sg_lt (hC : RC M0 w ti n use) {p : Nat} (h : p < n) : sgN (M0 13 w ti) n p < 256 ∧ M0 13 w ti p &&& 255 = nI (sgN (M0 13 w ti) n p) := by
  unfold sgN
  rw [if_pos h]
  obtain ⟨j, hj, e⟩ := pk_andE (M0 13 w ti p) (m := 255) 8 rfl
  rw [e, nI_clamp (by omega)]
  exact ⟨by omega, rfl⟩
theorem sg_end {t : Nat → Int32} {n p : Nat} (h : ¬ p < n) : sgN t n p = 256 := if_neg h
/-- the sign at a place -/
def sI (n p s : Nat) : Int32 := if p < n then nI s else -1
theorem RS.sign (hC : RC M0 w ti n use) {M : Mem} {p : Nat} {ft : Int32} (h : RS M0 w M p ft) : mR_sign w M = some (sI n p (sgN (M0 13 w ti) n p), M) := by
  obtain ⟨c0, c1, c2, c3, c4, c5⟩ := hC
  obtain ⟨h1, h2, h3, h4⟩ := h
  have e0 : M 17 w 0 0 = nI ti := (h1 _ _ _ _ (by omega)).trans c0
  have e1 : M 17 w 0 1 = nI n := (h1 _ _ _ _ (by omega)).trans c2
  unfold mR_sign sI
  rw [h2, e0, e1, nI_clamp (by omega)]
  by_cases z : p < n
  · rw [if_pos (nI_lt z (by omega)), if_pos z]
    have hl : lenB ti = 50 := by unfold lenB; rw [if_pos c1]
    rw [hl, ixx_nI (by omega) (by decide), h1 13 _ _ _ (by omega), (sg_lt ⟨c0, c1, c2, c3, c4, c5⟩ z).2]
  · rw [if_neg (fun q => z ((nI_ltI (by omega) (by omega)).mp q)), if_neg z]
theorem sI_eq (hC : RC M0 w ti n use) {p c : Nat} (hc : c < 256) : sI n p (sgN (M0 13 w ti) n p) = nI c ↔ sgN (M0 13 w ti) n p = c := by
  unfold sI
  by_cases z : p < n
  · rw [if_pos z]
    have := (sg_lt hC z).1
    exact nI_eq (by omega) (by omega)
  · rw [if_neg z, sg_end z]
    constructor
    · intro q
      exact absurd (show nI c < 0 by rw [← q]; decide) (nI_pos (by omega))
    · intro q
      omega
theorem sg_in {t : Nat → Int32} {n p c : Nat} (h : sgN t n p = c) (hc : c < 256) : p < n := by
  by_cases z : p < n
  · exact z
  · rw [sg_end z] at h
    omega
/-- one place on -/
theorem RS.next {M : Mem} {p : Nat} {ft : Int32} (h : RS M0 w M p ft) (hp : p < 50) : RS M0 w (up M 17 w 0 6 (M 17 w 0 6 + 1)) (p + 1) ft := by
  obtain ⟨h1, h2, h3, h4⟩ := h
  refine ⟨fun r w' i k q => ?_, ?_, ?_, by omega⟩
  · rw [up_ne (by omega)]
    exact h1 r w' i k q
  · rw [up_eq, h2, nI_1]
  · rw [up_ne (by omega)]
    exact h3
theorem RS.flt {M : Mem} {p : Nat} {ft : Int32} (h : RS M0 w M p ft) : RS M0 w (up M 17 w 0 7 (M 17 w 0 6)) p (nI p) := by
  obtain ⟨h1, h2, h3, h4⟩ := h
  refine ⟨fun r w' i k q => ?_, ?_, ?_, h4⟩
  · rw [up_ne (by omega)]
    exact h1 r w' i k q
  · rw [up_ne (by omega)]
    exact h2
  · rw [up_eq, h2]
theorem RS.goes (hC : RC M0 w ti n use) {M : Mem} {p a b : Nat} (ha : a < 256) (hb : b < 256) (h : RS M0 w M p (-1)) : mR_goesOnWith w (nI a) (nI b) M = some (bI (sgN (M0 13 w ti) n p = a ∨ sgN (M0 13 w ti) n p = b), M) := by
  unfold mR_goesOnWith
  rw [h.sign hC]
  simp only [Option.bind_some]
  rw [h.2.2.1, if_pos (by decide)]
  unfold bI
  by_cases z1 : sgN (M0 13 w ti) n p = a
  · rw [if_pos ((sI_eq hC ha).mpr z1), if_pos (.inl z1)]
  · rw [if_neg (fun q => z1 ((sI_eq hC ha).mp q))]
    by_cases z2 : sgN (M0 13 w ti) n p = b
    · rw [if_pos ((sI_eq hC hb).mpr z2), if_pos (.inr z2)]
    · rw [if_neg (fun q => z2 ((sI_eq hC hb).mp q)), if_neg (by omega)]
theorem RS.goesF (hC : RC M0 w ti n use) {M : Mem} {p q : Nat} (hq : q ≤ 50) (a b : Int32) (h : RS M0 w M p (nI q)) : mR_goesOnWith w a b M = some (0, M) := by
  unfold mR_goesOnWith
  rw [h.sign hC]
  simp only [Option.bind_some]
  rw [h.2.2.1, if_neg (nI_pos (by omega))]
/-- what is read and worked out, as the grammar has it -/
def RP (M0 : Mem) (w : Nat) (nm : Nat → Int32) (a : Option (Int32 × Mem)) : RR → Prop
  | .inl q => ∃ v M' p', a = some (v, M') ∧ RS M0 w M' p' (nI q) ∧ q ≤ 50
  | .inr (c, p') => ∃ v M', a = some (v, M') ∧ RS M0 w M' p' (-1) ∧ Val nm c v
def RK (M0 : Mem) (w : Nat) (nm : Nat → Int32) (F : Mem → Option (Int32 × Mem)) (P : Nat → RR) : Prop := ∀ M p, RS M0 w M p (-1) → RP M0 w nm (F M) (P p)
variable {nm : Nat → Int32}
theorem opv {b : Nat} (h : b = 42 ∨ b = 47 ∨ b = 43 ∨ b = 45 ∨ b = 60 ∨ b = 61 ∨ b = 62 ∨ b = 38 ∨ b = 124) : -100 - nI b ≤ -100 ∧ ¬ -100 - nI b = -133 ∧ -100 - (-100 - nI b) = nI b := by
  rcases h with rfl | rfl | rfl | rfl | rfl | rfl | rfl | rfl | rfl <;> decide
theorem mR_either_flt (hC : RC M0 w ti n use) (S : Nat → Int32 → Mem → Option (Int32 × Mem)) (op x : Int32) {M : Mem} {p q t m : Nat} (hq : q ≤ 50) (ht : t ≤ 50) (h : RS M0 w M p (nI q)) : mR_either_8 S (m + 1) w op x (nI t) M = some (x, M) := by
  show mR_either_8b S (mR_either_8 S m) w op x (nI t) M = _
  unfold mR_either_8b
  by_cases z : t < 50
  · rw [if_pos (show nI t < (50 : Int32) from nI_lt (b := 50) z (by decide)), h.goesF hC hq]
    rfl
  · rw [if_neg (show ¬ nI t < (50 : Int32) from nI_nlt (b := 50) (by omega) (by omega))]
theorem mR_either_loop (hC : RC M0 w ti n use) (S : Nat → Int32 → Mem → Option (Int32 × Mem)) (op : Int32) {P : Nat → RR} (hS : RK M0 w nm (S w op) P) : ∀ (k t m : Nat) (c : List Int32) (x : Int32) (M : Mem) (p : Nat), t + k = 50 → k + 1 < m → RS M0 w M p (-1) → Val nm c x → RP M0 w nm (mR_either_8 S m w op x (nI t) M) (pChain (sgN (M0 13 w ti) n) isOrB P k c p) := by
  intro k
  induction k with
  | zero =>
    intro t m c x M p ht hm h hv
    obtain ⟨m, rfl⟩ : ∃ j, m = j + 1 := ⟨m - 1, by omega⟩
    refine ⟨x, M, ?_, h, hv⟩
    show mR_either_8b S (mR_either_8 S m) w op x (nI t) M = _
    unfold mR_either_8b
    rw [if_neg (show ¬ nI t < (50 : Int32) from nI_nlt (b := 50) (by omega) (by omega))]
  | succ k ih =>
    intro t m c x M p ht hm h hv
    obtain ⟨m, rfl⟩ : ∃ j, m = j + 1 := ⟨m - 1, by omega⟩
    obtain ⟨m', rfl⟩ : ∃ j, m = j + 1 := ⟨m - 1, by omega⟩
    have hg := h.goes hC (a := 124) (b := 124) (by decide) (by decide)
    show RP M0 w nm (mR_either_8b S (mR_either_8 S (m' + 1)) w op x (nI t) M) _
    unfold mR_either_8b
    rw [if_pos (show nI t < (50 : Int32) from nI_lt (b := 50) (by omega) (by decide)), show mR_goesOnWith w 124 124 M = _ from hg]
    simp only [Option.bind_some, bI_ite]
    show RP M0 w nm _ (if isOrB (sgN (M0 13 w ti) n p) = true then _ else _)
    have hop : isOrB (sgN (M0 13 w ti) n p) = true ↔ (sgN (M0 13 w ti) n p = 124 ∨ sgN (M0 13 w ti) n p = 124) := by
      unfold isOrB
      simp [Bool.or_eq_true, Nat.beq_eq]
    by_cases z : sgN (M0 13 w ti) n p = 124 ∨ sgN (M0 13 w ti) n p = 124
    · rw [if_pos z, if_pos (hop.mpr z)]
      have hpn : p < n := by rcases z with z | z <;> exact sg_in z (by decide)
      have h' := h.next (show p < 50 by have := hC.2.2.2.1; omega)
      have hs := hS _ _ h'
      have e1 : sgN (M0 13 w ti) n p = 124 := z.elim id id
      obtain ⟨o1, o2, o3⟩ := opv (b := 124) (by omega)
      cases hP : P (p + 1) with
      | inl q =>
        rw [hP] at hs
        obtain ⟨v, M', p', e, h2, hq⟩ := hs
        rw [show S w op (up M 17 w 0 6 (M 17 w 0 6 + 1)) = _ from e]
        simp only [Option.bind_some]
        have fl := fun y => mR_either_flt hC S op y (m := m') (p := p') hq (show t + 1 ≤ 50 by omega) h2
        rw [nI_1]
        by_cases zx : x = 0
        · rw [if_pos zx]
          by_cases zv : v = 0
          · rw [if_pos zv]; exact ⟨_, M', p', fl _, h2, hq⟩
          · rw [if_neg zv]; exact ⟨_, M', p', fl _, h2, hq⟩
        · rw [if_neg zx]; exact ⟨_, M', p', fl _, h2, hq⟩
      | inr r =>
        obtain ⟨c2, p2⟩ := r
        rw [hP] at hs
        obtain ⟨v, M', e, h2, hv2⟩ := hs
        rw [show S w op (up M 17 w 0 6 (M 17 w 0 6 + 1)) = _ from e]
        simp only [Option.bind_some]
        rw [e1]
        have hval := hv.op hv2 o1 o2 o3
        have st := fun y hy => ih (t + 1) (m' + 1) (c ++ (c2 ++ [-100 - nI 124])) y M' p2 (by omega) (by omega) h2 hy
        rw [nI_1]
        by_cases zx : x = 0
        · rw [if_pos zx]
          by_cases zv : v = 0
          · rw [if_pos zv]; exact st 0 (by rw [show (0 : Int32) = dn (nI 124) x v by subst zx; subst zv; rfl]; exact hval)
          · rw [if_neg zv]; exact st 1 (by rw [show (1 : Int32) = dn (nI 124) x v by subst zx; show (1 : Int32) = if (0 : Int32) = 0 then (if v = 0 then 0 else 1) else 1; rw [if_pos rfl, if_neg zv]]; exact hval)
        · rw [if_neg zx]; exact st 1 (by rw [show (1 : Int32) = dn (nI 124) x v by show (1 : Int32) = if x = 0 then (if v = 0 then 0 else 1) else 1; rw [if_neg zx]]; exact hval)
    · rw [if_neg z, if_neg (fun q => z (hop.mp q))]
      exact ⟨x, M, rfl, h, hv⟩
theorem mR_either_ok (hC : RC M0 w ti n use) (S : Nat → Int32 → Mem → Option (Int32 × Mem)) (op : Int32) {P : Nat → RR} (hS : RK M0 w nm (S w op) P) : RK M0 w nm (mR_either S w op) (pLvl (sgN (M0 13 w ti) n) isOrB P) := by
  intro M p h
  have hs := hS M p h
  unfold mR_either mR_eitherb
  unfold pLvl
  cases hP : P p with
  | inl q =>
    rw [hP] at hs
    obtain ⟨v, M', p', e, h', hq⟩ := hs
    rw [e]
    exact ⟨v, M', p', mR_either_flt hC S op v (t := 0) (m := 99999) hq (by omega) h', h', hq⟩
  | inr r =>
    obtain ⟨c, p1⟩ := r
    rw [hP] at hs
    obtain ⟨v, M', e, h', hv⟩ := hs
    rw [e]
    exact mR_either_loop hC S op hS 50 0 fuel c v M' p1 (by omega) (by unfold fuel; omega) h' hv
theorem mR_both_flt (hC : RC M0 w ti n use) (S : Nat → Int32 → Mem → Option (Int32 × Mem)) (op x : Int32) {M : Mem} {p q t m : Nat} (hq : q ≤ 50) (ht : t ≤ 50) (h : RS M0 w M p (nI q)) : mR_both_8 S (m + 1) w op x (nI t) M = some (x, M) := by
  show mR_both_8b S (mR_both_8 S m) w op x (nI t) M = _
  unfold mR_both_8b
  by_cases z : t < 50
  · rw [if_pos (show nI t < (50 : Int32) from nI_lt (b := 50) z (by decide)), h.goesF hC hq]
    rfl
  · rw [if_neg (show ¬ nI t < (50 : Int32) from nI_nlt (b := 50) (by omega) (by omega))]
theorem mR_both_loop (hC : RC M0 w ti n use) (S : Nat → Int32 → Mem → Option (Int32 × Mem)) (op : Int32) {P : Nat → RR} (hS : RK M0 w nm (S w op) P) : ∀ (k t m : Nat) (c : List Int32) (x : Int32) (M : Mem) (p : Nat), t + k = 50 → k + 1 < m → RS M0 w M p (-1) → Val nm c x → RP M0 w nm (mR_both_8 S m w op x (nI t) M) (pChain (sgN (M0 13 w ti) n) isAndB P k c p) := by
  intro k
  induction k with
  | zero =>
    intro t m c x M p ht hm h hv
    obtain ⟨m, rfl⟩ : ∃ j, m = j + 1 := ⟨m - 1, by omega⟩
    refine ⟨x, M, ?_, h, hv⟩
    show mR_both_8b S (mR_both_8 S m) w op x (nI t) M = _
    unfold mR_both_8b
    rw [if_neg (show ¬ nI t < (50 : Int32) from nI_nlt (b := 50) (by omega) (by omega))]
  | succ k ih =>
    intro t m c x M p ht hm h hv
    obtain ⟨m, rfl⟩ : ∃ j, m = j + 1 := ⟨m - 1, by omega⟩
    obtain ⟨m', rfl⟩ : ∃ j, m = j + 1 := ⟨m - 1, by omega⟩
    have hg := h.goes hC (a := 38) (b := 38) (by decide) (by decide)
    show RP M0 w nm (mR_both_8b S (mR_both_8 S (m' + 1)) w op x (nI t) M) _
    unfold mR_both_8b
    rw [if_pos (show nI t < (50 : Int32) from nI_lt (b := 50) (by omega) (by decide)), show mR_goesOnWith w 38 38 M = _ from hg]
    simp only [Option.bind_some, bI_ite]
    show RP M0 w nm _ (if isAndB (sgN (M0 13 w ti) n p) = true then _ else _)
    have hop : isAndB (sgN (M0 13 w ti) n p) = true ↔ (sgN (M0 13 w ti) n p = 38 ∨ sgN (M0 13 w ti) n p = 38) := by
      unfold isAndB
      simp [Bool.or_eq_true, Nat.beq_eq]
    by_cases z : sgN (M0 13 w ti) n p = 38 ∨ sgN (M0 13 w ti) n p = 38
    · rw [if_pos z, if_pos (hop.mpr z)]
      have hpn : p < n := by rcases z with z | z <;> exact sg_in z (by decide)
      have h' := h.next (show p < 50 by have := hC.2.2.2.1; omega)
      have hs := hS _ _ h'
      have e1 : sgN (M0 13 w ti) n p = 38 := z.elim id id
      obtain ⟨o1, o2, o3⟩ := opv (b := 38) (by omega)
      cases hP : P (p + 1) with
      | inl q =>
        rw [hP] at hs
        obtain ⟨v, M', p', e, h2, hq⟩ := hs
        rw [show S w op (up M 17 w 0 6 (M 17 w 0 6 + 1)) = _ from e]
        simp only [Option.bind_some]
        have fl := fun y => mR_both_flt hC S op y (m := m') (p := p') hq (show t + 1 ≤ 50 by omega) h2
        rw [nI_1]
        by_cases zx : x = 0
        · rw [if_pos zx]; exact ⟨_, M', p', fl _, h2, hq⟩
        · rw [if_neg zx]
          by_cases zv : v = 0
          · rw [if_pos zv]; exact ⟨_, M', p', fl _, h2, hq⟩
          · rw [if_neg zv]; exact ⟨_, M', p', fl _, h2, hq⟩
      | inr r =>
        obtain ⟨c2, p2⟩ := r
        rw [hP] at hs
        obtain ⟨v, M', e, h2, hv2⟩ := hs
        rw [show S w op (up M 17 w 0 6 (M 17 w 0 6 + 1)) = _ from e]
        simp only [Option.bind_some]
        rw [e1]
        have hval := hv.op hv2 o1 o2 o3
        have st := fun y hy => ih (t + 1) (m' + 1) (c ++ (c2 ++ [-100 - nI 38])) y M' p2 (by omega) (by omega) h2 hy
        rw [nI_1]
        by_cases zx : x = 0
        · rw [if_pos zx]; exact st 0 (by rw [show (0 : Int32) = dn (nI 38) x v by show (0 : Int32) = if x = 0 then 0 else if v = 0 then 0 else 1; rw [if_pos zx]]; exact hval)
        · rw [if_neg zx]
          by_cases zv : v = 0
          · rw [if_pos zv]; exact st 0 (by rw [show (0 : Int32) = dn (nI 38) x v by show (0 : Int32) = if x = 0 then 0 else if v = 0 then 0 else 1; rw [if_neg zx, if_pos zv]]; exact hval)
          · rw [if_neg zv]; exact st 1 (by rw [show (1 : Int32) = dn (nI 38) x v by show (1 : Int32) = if x = 0 then 0 else if v = 0 then 0 else 1; rw [if_neg zx, if_neg zv]]; exact hval)
    · rw [if_neg z, if_neg (fun q => z (hop.mp q))]
      exact ⟨x, M, rfl, h, hv⟩
theorem mR_both_ok (hC : RC M0 w ti n use) (S : Nat → Int32 → Mem → Option (Int32 × Mem)) (op : Int32) {P : Nat → RR} (hS : RK M0 w nm (S w op) P) : RK M0 w nm (mR_both S w op) (pLvl (sgN (M0 13 w ti) n) isAndB P) := by
  intro M p h
  have hs := hS M p h
  unfold mR_both mR_bothb
  unfold pLvl
  cases hP : P p with
  | inl q =>
    rw [hP] at hs
    obtain ⟨v, M', p', e, h', hq⟩ := hs
    rw [e]
    exact ⟨v, M', p', mR_both_flt hC S op v (t := 0) (m := 99999) hq (by omega) h', h', hq⟩
  | inr r =>
    obtain ⟨c, p1⟩ := r
    rw [hP] at hs
    obtain ⟨v, M', e, h', hv⟩ := hs
    rw [e]
    exact mR_both_loop hC S op hS 50 0 fuel c v M' p1 (by omega) (by unfold fuel; omega) h' hv
theorem mR_added_flt (hC : RC M0 w ti n use) (S : Nat → Int32 → Mem → Option (Int32 × Mem)) (op x : Int32) {M : Mem} {p q t m : Nat} (hq : q ≤ 50) (ht : t ≤ 50) (h : RS M0 w M p (nI q)) : mR_added_8 S (m + 1) w op x (nI t) M = some (x, M) := by
  show mR_added_8b S (mR_added_8 S m) w op x (nI t) M = _
  unfold mR_added_8b
  by_cases z : t < 50
  · rw [if_pos (show nI t < (50 : Int32) from nI_lt (b := 50) z (by decide)), h.goesF hC hq]
    rfl
  · rw [if_neg (show ¬ nI t < (50 : Int32) from nI_nlt (b := 50) (by omega) (by omega))]
theorem mR_added_loop (hC : RC M0 w ti n use) (S : Nat → Int32 → Mem → Option (Int32 × Mem)) (op : Int32) {P : Nat → RR} (hS : RK M0 w nm (S w op) P) : ∀ (k t m : Nat) (c : List Int32) (x : Int32) (M : Mem) (p : Nat), t + k = 50 → k + 1 < m → RS M0 w M p (-1) → Val nm c x → RP M0 w nm (mR_added_8 S m w op x (nI t) M) (pChain (sgN (M0 13 w ti) n) isAddB P k c p) := by
  intro k
  induction k with
  | zero =>
    intro t m c x M p ht hm h hv
    obtain ⟨m, rfl⟩ : ∃ j, m = j + 1 := ⟨m - 1, by omega⟩
    refine ⟨x, M, ?_, h, hv⟩
    show mR_added_8b S (mR_added_8 S m) w op x (nI t) M = _
    unfold mR_added_8b
    rw [if_neg (show ¬ nI t < (50 : Int32) from nI_nlt (b := 50) (by omega) (by omega))]
  | succ k ih =>
    intro t m c x M p ht hm h hv
    obtain ⟨m, rfl⟩ : ∃ j, m = j + 1 := ⟨m - 1, by omega⟩
    obtain ⟨m', rfl⟩ : ∃ j, m = j + 1 := ⟨m - 1, by omega⟩
    have hg := h.goes hC (a := 43) (b := 45) (by decide) (by decide)
    show RP M0 w nm (mR_added_8b S (mR_added_8 S (m' + 1)) w op x (nI t) M) _
    unfold mR_added_8b
    rw [if_pos (show nI t < (50 : Int32) from nI_lt (b := 50) (by omega) (by decide)), show mR_goesOnWith w 43 45 M = _ from hg]
    simp only [Option.bind_some, bI_ite]
    show RP M0 w nm _ (if isAddB (sgN (M0 13 w ti) n p) = true then _ else _)
    have hop : isAddB (sgN (M0 13 w ti) n p) = true ↔ (sgN (M0 13 w ti) n p = 43 ∨ sgN (M0 13 w ti) n p = 45) := by
      unfold isAddB
      simp [Bool.or_eq_true, Nat.beq_eq]
    by_cases z : sgN (M0 13 w ti) n p = 43 ∨ sgN (M0 13 w ti) n p = 45
    · rw [if_pos z, if_pos (hop.mpr z)]
      have hpn : p < n := by rcases z with z | z <;> exact sg_in z (by decide)
      have h' := h.next (show p < 50 by have := hC.2.2.2.1; omega)
      have hs := hS _ _ h'
      rw [h.sign hC]
      simp only [Option.bind_some]
      have e43 : sI n p (sgN (M0 13 w ti) n p) = 43 ↔ sgN (M0 13 w ti) n p = 43 := sI_eq hC (c := 43) (by decide)
      cases hP : P (p + 1) with
      | inl q =>
        rw [hP] at hs
        obtain ⟨v, M', p', e, h2, hq⟩ := hs
        rw [show S w op (up M 17 w 0 6 (M 17 w 0 6 + 1)) = _ from e]
        simp only [Option.bind_some]
        have fl := fun y => mR_added_flt hC S op y (m := m') (p := p') hq (show t + 1 ≤ 50 by omega) h2
        rw [nI_1]
        by_cases zx : sI n p (sgN (M0 13 w ti) n p) = 43
        · rw [if_pos zx]; exact ⟨_, M', p', fl _, h2, hq⟩
        · rw [if_neg zx]; exact ⟨_, M', p', fl _, h2, hq⟩
      | inr r =>
        obtain ⟨c2, p2⟩ := r
        rw [hP] at hs
        obtain ⟨v, M', e, h2, hv2⟩ := hs
        rw [show S w op (up M 17 w 0 6 (M 17 w 0 6 + 1)) = _ from e]
        simp only [Option.bind_some]
        rw [nI_1]
        rcases z with z | z
        · obtain ⟨o1, o2, o3⟩ := opv (b := 43) (by omega)
          have hval := hv.op hv2 o1 o2 o3
          rw [if_pos (e43.mpr z), z]
          exact ih (t + 1) (m' + 1) (c ++ (c2 ++ [-100 - nI 43])) (x + v) M' p2 (by omega) (by omega) h2 hval
        · obtain ⟨o1, o2, o3⟩ := opv (b := 45) (by omega)
          have hval := hv.op hv2 o1 o2 o3
          rw [if_neg (fun q => by have := e43.mp q; omega), z]
          exact ih (t + 1) (m' + 1) (c ++ (c2 ++ [-100 - nI 45])) (x - v) M' p2 (by omega) (by omega) h2 hval
    · rw [if_neg z, if_neg (fun q => z (hop.mp q))]
      exact ⟨x, M, rfl, h, hv⟩
theorem mR_added_ok (hC : RC M0 w ti n use) (S : Nat → Int32 → Mem → Option (Int32 × Mem)) (op : Int32) {P : Nat → RR} (hS : RK M0 w nm (S w op) P) : RK M0 w nm (mR_added S w op) (pLvl (sgN (M0 13 w ti) n) isAddB P) := by
  intro M p h
  have hs := hS M p h
  unfold mR_added mR_addedb
  unfold pLvl
  cases hP : P p with
  | inl q =>
    rw [hP] at hs
    obtain ⟨v, M', p', e, h', hq⟩ := hs
    rw [e]
    exact ⟨v, M', p', mR_added_flt hC S op v (t := 0) (m := 99999) hq (by omega) h', h', hq⟩
  | inr r =>
    obtain ⟨c, p1⟩ := r
    rw [hP] at hs
    obtain ⟨v, M', e, h', hv⟩ := hs
    rw [e]
    exact mR_added_loop hC S op hS 50 0 fuel c v M' p1 (by omega) (by unfold fuel; omega) h' hv
theorem mR_multiplied_flt (hC : RC M0 w ti n use) (S : Nat → Int32 → Mem → Option (Int32 × Mem)) (op x : Int32) {M : Mem} {p q t m : Nat} (hq : q ≤ 50) (ht : t ≤ 50) (h : RS M0 w M p (nI q)) : mR_multiplied_8 S (m + 1) w op x (nI t) M = some (x, M) := by
  show mR_multiplied_8b S (mR_multiplied_39 S (mR_multiplied_8 S m)) w op x (nI t) M = _
  unfold mR_multiplied_8b
  by_cases z : t < 50
  · rw [if_pos (show nI t < (50 : Int32) from nI_lt (b := 50) z (by decide)), h.goesF hC hq]
    rfl
  · rw [if_neg (show ¬ nI t < (50 : Int32) from nI_nlt (b := 50) (by omega) (by omega))]
theorem mR_multiplied_loop (hC : RC M0 w ti n use) (S : Nat → Int32 → Mem → Option (Int32 × Mem)) (op : Int32) {P : Nat → RR} (hS : RK M0 w nm (S w op) P) : ∀ (k t m : Nat) (c : List Int32) (x : Int32) (M : Mem) (p : Nat), t + k = 50 → k + 1 < m → RS M0 w M p (-1) → Val nm c x → RP M0 w nm (mR_multiplied_8 S m w op x (nI t) M) (pChain (sgN (M0 13 w ti) n) isMulB P k c p) := by
  intro k
  induction k with
  | zero =>
    intro t m c x M p ht hm h hv
    obtain ⟨m, rfl⟩ : ∃ j, m = j + 1 := ⟨m - 1, by omega⟩
    refine ⟨x, M, ?_, h, hv⟩
    show mR_multiplied_8b S (mR_multiplied_39 S (mR_multiplied_8 S m)) w op x (nI t) M = _
    unfold mR_multiplied_8b
    rw [if_neg (show ¬ nI t < (50 : Int32) from nI_nlt (b := 50) (by omega) (by omega))]
  | succ k ih =>
    intro t m c x M p ht hm h hv
    obtain ⟨m, rfl⟩ : ∃ j, m = j + 1 := ⟨m - 1, by omega⟩
    obtain ⟨m', rfl⟩ : ∃ j, m = j + 1 := ⟨m - 1, by omega⟩
    have hg := h.goes hC (a := 42) (b := 47) (by decide) (by decide)
    show RP M0 w nm (mR_multiplied_8b S (mR_multiplied_39 S (mR_multiplied_8 S (m' + 1))) w op x (nI t) M) _
    unfold mR_multiplied_8b
    rw [if_pos (show nI t < (50 : Int32) from nI_lt (b := 50) (by omega) (by decide)), show mR_goesOnWith w 42 47 M = _ from hg]
    simp only [Option.bind_some, bI_ite]
    show RP M0 w nm _ (if isMulB (sgN (M0 13 w ti) n p) = true then _ else _)
    have hop : isMulB (sgN (M0 13 w ti) n p) = true ↔ (sgN (M0 13 w ti) n p = 42 ∨ sgN (M0 13 w ti) n p = 47) := by
      unfold isMulB
      simp [Bool.or_eq_true, Nat.beq_eq]
    by_cases z : sgN (M0 13 w ti) n p = 42 ∨ sgN (M0 13 w ti) n p = 47
    · rw [if_pos z, if_pos (hop.mpr z)]
      have hpn : p < n := by rcases z with z | z <;> exact sg_in z (by decide)
      have h' := h.next (show p < 50 by have := hC.2.2.2.1; omega)
      have hs := hS _ _ h'
      rw [h.sign hC]
      simp only [Option.bind_some, mR_multiplied_39, mR_multiplied_39b]
      have e42 : sI n p (sgN (M0 13 w ti) n p) = 42 ↔ sgN (M0 13 w ti) n p = 42 := sI_eq hC (c := 42) (by decide)
      cases hP : P (p + 1) with
      | inl q =>
        rw [hP] at hs
        obtain ⟨v, M', p', e, h2, hq⟩ := hs
        rw [show S w op (up M 17 w 0 6 (M 17 w 0 6 + 1)) = _ from e]
        simp only [Option.bind_some, if_true, show ((1 : Int32) = 0) = False from eq_false (by decide), if_false]
        have fl := fun y => mR_multiplied_flt hC S op y (m := m') (p := p') hq (show t + 1 ≤ 50 by omega) h2
        rw [nI_1]
        by_cases zx : sI n p (sgN (M0 13 w ti) n p) = 42
        · rw [if_pos zx]; exact ⟨_, M', p', fl _, h2, hq⟩
        · rw [if_neg zx]
          by_cases zv : v = 0
          · rw [if_pos zv]; exact ⟨_, M', p', fl _, h2, hq⟩
          · rw [if_neg zv, if_neg zv]; exact ⟨_, M', p', fl _, h2, hq⟩
      | inr r =>
        obtain ⟨c2, p2⟩ := r
        rw [hP] at hs
        obtain ⟨v, M', e, h2, hv2⟩ := hs
        rw [show S w op (up M 17 w 0 6 (M 17 w 0 6 + 1)) = _ from e]
        simp only [Option.bind_some, if_true, show ((1 : Int32) = 0) = False from eq_false (by decide), if_false]
        rw [nI_1]
        rcases z with z | z
        · obtain ⟨o1, o2, o3⟩ := opv (b := 42) (by omega)
          have hval := hv.op hv2 o1 o2 o3
          rw [if_pos (e42.mpr z), z]
          exact ih (t + 1) (m' + 1) (c ++ (c2 ++ [-100 - nI 42])) (x * v) M' p2 (by omega) (by omega) h2 hval
        · obtain ⟨o1, o2, o3⟩ := opv (b := 47) (by omega)
          have hval := hv.op hv2 o1 o2 o3
          rw [if_neg (fun q => by have := e42.mp q; omega), z]
          by_cases zv : v = 0
          · rw [if_pos zv]
            exact ih (t + 1) (m' + 1) (c ++ (c2 ++ [-100 - nI 47])) 0 M' p2 (by omega) (by omega) h2 (by rw [show (0 : Int32) = dn (nI 47) x v by show (0 : Int32) = if v = 0 then 0 else x / v; rw [if_pos zv]]; exact hval)
          · rw [if_neg zv, if_neg zv]
            exact ih (t + 1) (m' + 1) (c ++ (c2 ++ [-100 - nI 47])) (x / v) M' p2 (by omega) (by omega) h2 (by rw [show x / v = dn (nI 47) x v by show x / v = if v = 0 then 0 else x / v; rw [if_neg zv]]; exact hval)
    · rw [if_neg z, if_neg (fun q => z (hop.mp q))]
      exact ⟨x, M, rfl, h, hv⟩
theorem mR_multiplied_ok (hC : RC M0 w ti n use) (S : Nat → Int32 → Mem → Option (Int32 × Mem)) (op : Int32) {P : Nat → RR} (hS : RK M0 w nm (S w op) P) : RK M0 w nm (mR_multiplied S w op) (pLvl (sgN (M0 13 w ti) n) isMulB P) := by
  intro M p h
  have hs := hS M p h
  unfold mR_multiplied mR_multipliedb
  unfold pLvl
  cases hP : P p with
  | inl q =>
    rw [hP] at hs
    obtain ⟨v, M', p', e, h', hq⟩ := hs
    rw [e]
    exact ⟨v, M', p', mR_multiplied_flt hC S op v (t := 0) (m := 99999) hq (by omega) h', h', hq⟩
  | inr r =>
    obtain ⟨c, p1⟩ := r
    rw [hP] at hs
    obtain ⟨v, M', e, h', hv⟩ := hs
    rw [e]
    exact mR_multiplied_loop hC S op hS 50 0 fuel c v M' p1 (by omega) (by unfold fuel; omega) h' hv
end Reader
