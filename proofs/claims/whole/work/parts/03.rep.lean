/-! ===== what the heap holds of an abstract memory ===== -/
def tabA : Nat → Int32 := fun k => ([-1, 0, 1, 0, 0, 0, 0] : List Int32).getD k 0
def tabB : Nat → Int32 := fun k => ([10, 11, 12, 13, 0, 20, 21, 0, 31, 0, 30, 0, 0, 40, 0, 0, 51, 0, 0, 50, 0, 0, 60, 0, 0, 0, 0, 70] : List Int32).getD k 0
/-- a region: (0, class, fields), (1, n, 0) a row of n ints, (2, 0, 0) a row of bytes, (3, region, n) a row of n of that region -/
def kdL : List (Nat × Nat × Nat) := [(0, 10, 8), (0, 9, 18), (3, 3, 8), (0, 7, 4), (1, 64, 0), (3, 6, 5), (0, 1, 14), (1, 12, 0), (1, 8, 0), (3, 10, 40), (0, 2, 5), (3, 12, 12), (0, 6, 4), (2, 0, 0), (3, 15, 24), (0, 0, 12), (1, 20, 0), (0, 4, 8), (3, 19, 4), (0, 5, 3), (1, 24, 0), (0, 8, 5), (1, 40, 0), (0, 3, 2), (1, 256, 0), (1, 36, 0), (1, 6, 0)]
def kdM : List (Nat × Nat × Nat) := [(0, 11, 27), (1, 1502, 0), (1, 1502, 0), (1, 1502, 0), (1, 6, 0), (1, 0, 0), (1, 8, 0), (1, 50, 0), (1, 50, 0), (1, 50, 0), (1, 3, 0), (1, 0, 0), (1, 0, 0), (1, 0, 0), (1, 5, 0), (1, 5, 0), (1, 0, 0), (1, 5, 0), (1, 5, 0), (1, 5, 0), (1, 0, 0), (1, 0, 0), (1, 40, 0), (1, 0, 0), (1, 4, 0), (1, 4, 0), (1, 96, 0), (1, 24, 0)]
def kd (r : Nat) : Nat × Nat × Nat := if r < 40 then kdL.getD r (1, 0, 0) else kdM.getD (r - 40) (1, 0, 0)
def nW (r : Nat) : Nat := if r = 0 then 1 else if r < 18 then 3 else 1
def nIL : List Nat := [1, 1, 1, 8, 1, 1, 5, 5, 5, 1, 40, 1, 12, 14, 1, 24, 1, 1, 1, 4, 4]
def nIx (r : Nat) : Nat := nIL.getD r 1
def regs : Nat → List Nat
  | 0 => List.range 27
  | _ => [40, 41, 42, 43, 44, 46, 47, 48, 49, 50, 54, 55, 57, 58, 59, 62, 64, 65, 66, 67]
def Ls (sd : Nat) : List Loc3 := (regs sd).flatMap fun r => (List.range (nW r)).flatMap fun w => (List.range (nIx r)).map fun i => (r, w, i)
theorem mem_Ls {sd : Nat} {r w i : Nat} : (r, w, i) ∈ Ls sd ↔ r ∈ regs sd ∧ w < nW r ∧ i < nIx r := by
  simp only [Ls, List.mem_flatMap, List.mem_map, List.mem_range, Prod.mk.injEq]
  constructor
  · rintro ⟨r', h1, w', h2, i', h3, rfl, rfl, rfl⟩
    exact ⟨h1, h2, h3⟩
  · rintro ⟨h1, h2, h3⟩
    exact ⟨r, h1, w, h2, i, h3, rfl, rfl, rfl⟩
def nodupB : List Loc3 → Bool
  | [] => true
  | a :: r => !(r.any fun b => Nat.beq a.1 b.1 && (Nat.beq a.2.1 b.2.1 && Nat.beq a.2.2 b.2.2)) && nodupB r
theorem nodup_of : ∀ {l : List Loc3}, nodupB l = true → l.Nodup
  | [], _ => List.nodup_nil
  | a :: r, h => by
    simp only [nodupB, Bool.and_eq_true, Bool.not_eq_true', List.any_eq_false] at h
    refine List.nodup_cons.mpr ⟨fun hm => ?_, nodup_of h.2⟩
    have := h.1 a hm
    simp at this
theorem Ls_nodup0 : (Ls 0).Nodup := nodup_of (by decide +kernel)
theorem Ls_nodup1 : (Ls 1).Nodup := nodup_of (by decide +kernel)
def vO (ad : Loc3 → Nat) : AV → Value
  | .inl x => .int x
  | .inr (.inl x) => .long x
  | .inr (.inr (.inl q)) => .ref (ad q)
  | .inr (.inr (.inr _)) => .null
def gvF (r w i k : Nat) (M : Mem) : AV := match r, k with
  | 0, 0 => aR (1, 0, 0)
  | 0, 1 => aR (1, 1, 0)
  | 0, 2 => aR (1, 2, 0)
  | 0, 3 => aR (18, 0, 0)
  | 0, 4 => aR (21, 0, 0)
  | 0, 5 => aR (23, 0, 0)
  | 0, 6 => aR (26, 0, 0)
  | 1, 1 => aR (2, w, 0)
  | 1, 4 => aR (4, w, 0)
  | 1, 5 => aR (5, w, 0)
  | 1, 7 => aR (9, w, 0)
  | 1, 9 => aR (11, w, 0)
  | 1, 11 => aR (14, w, 0)
  | 1, 13 => aR (13, w, 12)
  | 1, 15 => aR (16, w, 0)
  | 1, 17 => aR (17, w, 0)
  | 6, 12 => aR (7, w, i)
  | 6, 13 => aR (8, w, i)
  | 12, 3 => aR (13, w, i)
  | 17, 0 => aR (13, w, (M 17 w i 0).toNatClampNeg)
  | 19, 2 => aR (20, w, i)
  | 21, 0 => aR (22, 0, 0)
  | 23, 0 => aR (24, 0, 0)
  | 23, 1 => aR (25, 0, 0)
  | 40, 0 => aR (41, 0, 0)
  | 40, 1 => aR (42, 0, 0)
  | 40, 2 => aR (43, 0, 0)
  | 40, 3 => aR (44, 0, 0)
  | 40, 5 => aR (46, 0, 0)
  | 40, 6 => aR (47, 0, 0)
  | 40, 7 => aR (48, 0, 0)
  | 40, 8 => aR (49, 0, 0)
  | 40, 9 => aR (50, 0, 0)
  | 40, 13 => aR (54, 0, 0)
  | 40, 14 => aR (55, 0, 0)
  | 40, 16 => aR (57, 0, 0)
  | 40, 17 => aR (58, 0, 0)
  | 40, 18 => aR (59, 0, 0)
  | 40, 21 => aR (62, 0, 0)
  | 40, 23 => aR (64, 0, 0)
  | 40, 24 => aR (65, 0, 0)
  | 40, 25 => aR (66, 0, 0)
  | 40, 26 => aR (67, 0, 0)
  | _, _ => aI (M r w i k)
def cellK (ad : Loc3 → Nat) (cT : Nat → ClassId) (M : Mem) (r w i : Nat) : Nat × Nat × Nat → va_E
  | (0, ci, N) => .inr (ci, (List.range N).map fun k => vO ad (gvF r w i k M))
  | (1, n, _) => .inl (cT 100, n, .inl (M r w i))
  | (2, _, _) => .inl (cT 101, lenB i, .inl (M r w i))
  | (_, tr, n) => .inl (cT tr, n, .inr (.inr (.inr (.inr fun k => some (ad (tr, w, k))))))
def cellE (ad : Loc3 → Nat) (cT : Nat → ClassId) (M : Mem) (q : Loc3) : va_E := cellK ad cT M q.1 q.2.1 q.2.2 (kd q.1)
/-- class ids and slots, addresses, classes of rows, side -/
abbrev EV : Type := va_G × (Loc3 → Nat) × (Nat → ClassId) × Nat
def wsE (E : EV) (M : Mem) : va_W := (Ls E.2.2.2).map fun q => (E.2.1 q, cellE E.2.1 E.2.2.1 M q)
def Ast (E : EV) : Nat → Prop := fun a => ∃ q ∈ Ls E.2.2.2, E.2.1 q = a
def okM (M : Mem) : Prop := (∀ w i, (M 17 w i 0).toNatClampNeg < 14) ∧ ∀ w i k, fits .byte (.int (M 13 w i k)) = true
def vA (sd : Nat) : AV → Prop
  | .inr (.inr (.inl q)) => q ∈ Ls sd ∨ q = (27, 0, 0) ∨ q = (28, 0, 0)
  | _ => True
def ZK (E : EV) (U : State) (H : Heap) : Prop :=
  va_Z RX10 "ABOVE" "[I" (.ref (E.2.1 (27, 0, 0))) (Ast E) U H ∧ va_T .int (E.2.1 (27, 0, 0)) 7 (fun k => .int (tabA k)) (Ast E) U H ∧
  va_Z RX10 "BODIES" "[I" (.ref (E.2.1 (28, 0, 0))) (Ast E) U H ∧ va_T .int (E.2.1 (28, 0, 0)) 28 (fun k => .int (tabB k)) (Ast E) U H
def EOK (E : EV) : Prop := (Ls E.2.2.2).Nodup ∧ ∀ a ∈ Ls E.2.2.2, ∀ b ∈ Ls E.2.2.2, E.2.1 a = E.2.1 b → a = b
def tysE (E : EV) : List (ClassId × FieldType) := [(E.2.2.1 100, .int), (E.2.2.1 101, .byte), (E.2.2.1 3, .object RX7), (E.2.2.1 6, .object RX1), (E.2.2.1 10, .object RX2), (E.2.2.1 12, .object RX6), (E.2.2.1 15, .object RX0), (E.2.2.1 19, .object RX5)]
def rmD (d : Nat) : Room := { frames := d, cells := 0, slots := 0, locals := 40 * d }
theorem wsE_at {E : EV} {M : Mem} {q : Loc3} (h : q ∈ Ls E.2.2.2) : ∃ q0 : Nat, (Ls E.2.2.2)[q0]? = some q ∧ (wsE E M)[q0]? = some (E.2.1 q, cellE E.2.1 E.2.2.1 M q) := by
  obtain ⟨q0, hq⟩ := List.getElem?_of_mem h
  exact ⟨q0, hq, by simp [wsE, hq]⟩
theorem wsE_D {E : EV} (hE : EOK E) (M : Mem) : va_D (Ast E) (wsE E M) := by
  refine ⟨fun i j p q hp hq he => ?_, fun k q hk => ?_⟩
  · simp only [wsE, List.getElem?_map, Option.map_eq_some_iff] at hp hq
    obtain ⟨a, ha, rfl⟩ := hp
    obtain ⟨b, hb, rfl⟩ := hq
    have e := hE.2 a (List.mem_of_getElem? ha) b (List.mem_of_getElem? hb) he
    subst e
    exact (List.getElem?_inj (List.getElem?_eq_some_iff.mp ha).1 hE.1).mp (ha.trans hb.symm)
  · simp only [wsE, List.getElem?_map, Option.map_eq_some_iff] at hk
    obtain ⟨a, ha, rfl⟩ := hk
    exact ⟨a, List.mem_of_getElem? ha, rfl⟩
/-- one cell is another: the list of all -/
theorem wsE_set {E : EV} (hE : EOK E) {M M' : Mem} {q : Loc3} {q0 : Nat} (hq : (Ls E.2.2.2)[q0]? = some q) (ho : ∀ p ∈ Ls E.2.2.2, p ≠ q → cellE E.2.1 E.2.2.1 M' p = cellE E.2.1 E.2.2.1 M p) {c : va_E} (hc : cellE E.2.1 E.2.2.1 M' q = c) : (wsE E M).set q0 (E.2.1 q, c) = wsE E M' := by
  apply List.ext_getElem?
  intro j
  rw [List.getElem?_set]
  by_cases hj : q0 = j
  · subst hj
    have h0 := (List.getElem?_eq_some_iff.mp hq).1
    have h1 : q0 < (wsE E M).length := by simpa [wsE] using h0
    have h2 : (Ls E.2.2.2)[q0] = q := (List.getElem?_eq_some_iff.mp hq).2
    simp [h0, wsE, h2, hc]
  · rw [if_neg hj]
    simp only [wsE, List.getElem?_map]
    cases hx : (Ls E.2.2.2)[j]? with
    | none => rfl
    | some p =>
      have hp : p ≠ q := by
        intro e
        subst e
        exact hj ((List.getElem?_inj (List.getElem?_eq_some_iff.mp hq).1 hE.1).mp (hq.trans hx.symm))
      simp [ho p (List.mem_of_getElem? hx) hp]
/-- memories that agree on a cell's places make the same cell -/
theorem cell_same {ad : Loc3 → Nat} {cT : Nat → ClassId} {M M' : Mem} {q : Loc3} (h : ∀ k, M' q.1 q.2.1 q.2.2 k = M q.1 q.2.1 q.2.2 k) : cellE ad cT M' q = cellE ad cT M q := by
  obtain ⟨r, w, i⟩ := q
  have hf : M' r w i = M r w i := funext h
  have hg : ∀ k, gvF r w i k M' = gvF r w i k M := by
    intro k
    unfold gvF
    split <;> first | rfl | (rw [hf])
  unfold cellE
  dsimp only
  generalize kd r = x
  unfold cellK
  split <;> simp only [hf, hg]
