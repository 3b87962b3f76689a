/-! ===== the made heap is the first memory ===== -/
theorem rowB_spec {f : Nat → Int32} : ∀ {l : List CV} {k0 : Nat}, rowB f l k0 = true → ∀ j, j < l.length → cvI (l.getD j (.inl 0)) = f (k0 + j)
  | [], _, _, j, hj => absurd hj (Nat.not_lt_zero _)
  | a :: r, k0, h, 0, _ => by
    simp only [rowB, Bool.and_eq_true] at h
    exact eq_of_beq h.1
  | a :: r, k0, h, j + 1, hj => by
    simp only [rowB, Bool.and_eq_true] at h
    have h2 := rowB_spec h.2 j (Nat.lt_of_succ_lt_succ hj)
    rw [show k0 + (j + 1) = k0 + 1 + j by omega, ← h2]
    rfl
theorem okV_eq {ad : Loc3 → Nat} {B : Nat} (had : ∀ p, okR p = true → ad p = B + ixS p) : ∀ {a : CV} {v : AV}, okV a v = true → cvV B a = vO ad v
  | .inl x, .inl y, h => by
    have e : x = y := eq_of_beq (show (x == y) = true from h)
    subst e
    rfl
  | .inr (some j), .inr (.inr (.inl p)), h => by
    simp only [okV, Bool.and_eq_true] at h
    have e := Nat.eq_of_beq_eq_true h.1
    subst e
    show Value.ref (B + ixS p) = Value.ref (ad p)
    rw [had p h.2]
  | .inl _, .inr (.inl _), h => by cases h
  | .inl _, .inr (.inr (.inl _)), h => by cases h
  | .inl _, .inr (.inr (.inr _)), h => by cases h
  | .inr none, .inl _, h => by cases h
  | .inr none, .inr (.inl _), h => by cases h
  | .inr none, .inr (.inr (.inl _)), h => by cases h
  | .inr none, .inr (.inr (.inr _)), h => by cases h
  | .inr (some _), .inl _, h => by cases h
  | .inr (some _), .inr (.inl _), h => by cases h
  | .inr (some _), .inr (.inr (.inr _)), h => by cases h
theorem objB_spec {g : Nat → AV} {ad : Loc3 → Nat} {B : Nat} (had : ∀ p, okR p = true → ad p = B + ixS p) : ∀ {l : List CV} {k0 : Nat}, objB g l k0 = true → ∀ j, j < l.length → (l.map (cvV B))[j]? = some (vO ad (g (k0 + j)))
  | [], _, _, j, hj => absurd hj (Nat.not_lt_zero _)
  | a :: r, k0, h, 0, _ => by
    simp only [objB, Bool.and_eq_true] at h
    show some (cvV B a) = _
    rw [okV_eq had h.1]
    rfl
  | a :: r, k0, h, j + 1, hj => by
    simp only [objB, Bool.and_eq_true] at h
    have h2 := objB_spec had h.2 j (Nat.lt_of_succ_lt_succ hj)
    rw [show k0 + (j + 1) = k0 + 1 + j by omega, ← h2]
    rfl
theorem refB_spec {tr w : Nat} {ad : Loc3 → Nat} {B : Nat} (had : ∀ p, okR p = true → ad p = B + ixS p) : ∀ {l : List CV} {k0 : Nat}, refB tr w l k0 = true → ∀ j, j < l.length → (cvR (l.getD j (.inr none))).map (B + ·) = some (ad (tr, w, k0 + j))
  | [], _, _, j, hj => absurd hj (Nat.not_lt_zero _)
  | .inr (some x) :: r, k0, h, 0, _ => by
    simp only [refB, Bool.and_eq_true] at h
    have e := Nat.eq_of_beq_eq_true h.1
    subst e
    show some (B + ixS (tr, w, k0)) = some (ad (tr, w, k0))
    rw [had _ h.2.1]
  | .inr (some x) :: r, k0, h, j + 1, hj => by
    simp only [refB, Bool.and_eq_true] at h
    have h2 := refB_spec had h.2.2 j (Nat.lt_of_succ_lt_succ hj)
    rw [show k0 + (j + 1) = k0 + 1 + j by omega, ← h2]
    rfl
  | .inr none :: r, k0, h, _, _ => by cases h
  | .inl _ :: r, k0, h, _, _ => by cases h
theorem arrV_ext {cA : ClassId} {n : Nat} {f g : Nat → Value} (h : ∀ j, j < n → f j = g j) : arrV cA n f = arrV cA n g := by
  unfold arrV
  have e : (fun j : Fin n => f j.val) = fun j : Fin n => g j.val := funext fun j => h j.1 j.2
  rw [e]
theorem cellA_byte {B : Nat} {cT : Nat → ClassId} {fs : List CV} : cellA B cT (101, fs) = .inl (cT 101, fs.length, .inl fun k => cvI (fs.getD k (.inl 0))) := by
  unfold cellA
  rw [if_neg (by show ¬ 101 < 100; decide), if_neg (by show ¬ 101 = 100; decide), if_pos rfl]
theorem born_cell {D : va_G} {B : Nat} {cT : Nat → ClassId} {ad : Loc3 → Nat} {M : Mem} {r w i : Nat} {c : CC} {H : Heap} (had : ∀ p, okR p = true → ad p = B + ixS p) {x : Nat × Nat × Nat} (h : okCell M r w i c x = true) {a : Nat} (hP : va_at D cls (a, cellA B cT c) H) : va_at D cls (a, cellK ad cT M r w i x) H := by
  obtain ⟨c0, fs⟩ := c
  obtain ⟨t, u, v⟩ := x
  match t, h with
  | 0, h =>
    simp only [okCell, Bool.and_eq_true] at h
    obtain ⟨h1, h2, h3, h4⟩ := h
    have h1 := Nat.eq_of_beq_eq_true h1
    have h3 := Nat.eq_of_beq_eq_true h3
    subst h1
    rw [cellA_obj (by have := Nat.le_of_ble_eq_true h2; omega)] at hP
    have e : fs.map (cvV B) = (List.range v).map fun k => vO ad (gvF r w i k M) := by
      apply List.ext_getElem?
      intro j
      by_cases hj : j < fs.length
      · rw [objB_spec had h4 j hj]
        simp [← h3, hj]
      · simp [hj, ← h3]
    rw [e] at hP
    exact hP
  | 1, h =>
    simp only [okCell, Bool.and_eq_true] at h
    obtain ⟨h1, h3, h4⟩ := h
    have h1 := Nat.eq_of_beq_eq_true h1
    have h3 := Nat.eq_of_beq_eq_true h3
    subst h1 h3
    rw [cellA_int] at hP
    refine Eq.trans hP (congrArg some ?_)
    unfold vp_cell
    dsimp only
    refine arrV_ext fun j hj => ?_
    have := rowB_spec h4 j hj
    rw [Nat.zero_add] at this
    rw [this]
  | 2, h =>
    simp only [okCell, Bool.and_eq_true] at h
    obtain ⟨h1, h3, h4⟩ := h
    have h1 := Nat.eq_of_beq_eq_true h1
    have h3 := Nat.eq_of_beq_eq_true h3
    subst h1
    rw [cellA_byte, h3] at hP
    refine Eq.trans hP (congrArg some ?_)
    unfold vp_cell
    dsimp only
    refine arrV_ext fun j hj => ?_
    have := rowB_spec h4 j (by rw [h3]; exact hj)
    rw [Nat.zero_add] at this
    rw [this]
  | t + 3, h =>
    simp only [okCell, Bool.and_eq_true] at h
    obtain ⟨h1, h3, h4⟩ := h
    have h1 := Nat.eq_of_beq_eq_true h1
    have h3 := Nat.eq_of_beq_eq_true h3
    subst h1 h3
    rw [cellA_ref] at hP
    refine Eq.trans hP (congrArg some ?_)
    unfold vp_cell
    dsimp only
    refine arrV_ext fun j hj => ?_
    have := refB_spec had h4 j hj
    rw [Nat.zero_add] at this
    rw [this]
theorem l3B_eq {a b : Loc3} (h : l3B a b = true) : a = b := by
  obtain ⟨a1, a2, a3⟩ := a
  obtain ⟨b1, b2, b3⟩ := b
  simp only [l3B, Bool.and_eq_true] at h
  have h1 : a1 = b1 := Nat.eq_of_beq_eq_true h.1
  have h2 : a2 = b2 := Nat.eq_of_beq_eq_true h.2.1
  have h3 : a3 = b3 := Nat.eq_of_beq_eq_true h.2.2
  rw [h1, h2, h3]
/-- where the cells lie: a base and a place; the two tables elsewhere -/
def adS (B tA tB : Nat) : Loc3 → Nat := fun q => if okR q = true then B + ixS q else if q.1 = 27 then tA else tB
theorem adS_in {B tA tB : Nat} {p : Loc3} (h : okR p = true) : adS B tA tB p = B + ixS p := if_pos h
theorem madeB_spec {X : List CC} {L : List Loc3} {q : Loc3} (h : madeB X L q = true) : okR q = true ∧ (∃ c, X[ixS q]? = some c ∧ okCell M0 q.1 q.2.1 q.2.2 c (kd q.1) = true) ∧ L[ixS q]? = some q := by
  simp only [madeB, Bool.and_eq_true] at h
  obtain ⟨⟨h1, h2⟩, h3⟩ := h
  refine ⟨h1, ?_, ?_⟩
  · split at h2
    · rename_i c hc
      exact ⟨c, hc, h2⟩
    · cases h2
  · split at h3
    · rename_i p hp
      rw [l3B_eq h3] at hp
      exact hp
    · cases h3
theorem born {G : va_G} {cT : Nat → ClassId} {B tA tB sd : Nat} {X : List CC} {L : List Loc3} (hm : ∀ q ∈ Ls sd, madeB X L q = true) {H : Heap} (hP : va_P G cls (wsA B cT X) H) : va_P G cls (wsE (G, adS B tA tB, cT, sd) M0) H := by
  intro k q hk
  simp only [wsE, List.getElem?_map, Option.map_eq_some_iff] at hk
  obtain ⟨p, hp, rfl⟩ := hk
  obtain ⟨h1, ⟨c, h2, h3⟩, -⟩ := madeB_spec (hm p (List.mem_of_getElem? hp))
  have h4 := hP (ixS p) (B + ixS p, cellA B cT c) (by rw [wsA_at, h2]; rfl)
  rw [adS_in h1]
  exact born_cell (fun p h => adS_in h) h3 h4
theorem eok_of {G : va_G} {cT : Nat → ClassId} {B tA tB sd : Nat} {X : List CC} {L : List Loc3} (hn : (Ls sd).Nodup) (hm : ∀ q ∈ Ls sd, madeB X L q = true) : EOK (G, adS B tA tB, cT, sd) := by
  refine ⟨hn, fun a ha b hb he => ?_⟩
  obtain ⟨a1, -, a3⟩ := madeB_spec (hm a ha)
  obtain ⟨b1, -, b3⟩ := madeB_spec (hm b hb)
  dsimp only at he
  rw [adS_in a1, adS_in b1] at he
  rw [Nat.add_left_cancel he] at a3
  exact Option.some.inj (a3.symm.trans b3)
theorem ast_in {G : va_G} {cT : Nat → ClassId} {B tA tB sd : Nat} {X : List CC} {L : List Loc3} (hm : ∀ q ∈ Ls sd, madeB X L q = true) {a : Nat} (h : Ast (G, adS B tA tB, cT, sd) a) : B ≤ a ∧ a < B + X.length := by
  obtain ⟨q, hq, rfl⟩ := h
  obtain ⟨h1, ⟨c, h2, -⟩, -⟩ := madeB_spec (hm q hq)
  show B ≤ adS B tA tB q ∧ adS B tA tB q < _
  rw [adS_in h1]
  have := (List.getElem?_eq_some_iff.mp h2).1
  omega
theorem okM0 : okM M0 := by
  refine ⟨fun w i => by rw [show M0 17 w i 0 = 13 from rfl]; decide, fun w i k => ?_⟩
  have : M0 13 w i k = 0 := rfl
  rw [this]
  rfl
