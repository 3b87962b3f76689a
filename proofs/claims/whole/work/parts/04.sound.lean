/-! ===== what the machine does, said of the abstract one ===== -/
def LSo (ad : Loc3 → Nat) (nL : Nat) (als : List AV) (ls : Array Slot) : Prop := als.length = nL ∧ ls.size = nL ∧ lv_wf ls ∧ ∀ i, nth als i ≠ aU → ls[i]? = some (.val (vO ad (nth als i)))
def lvl (ad : Loc3 → Nat) (nL : Nat) (als : List AV) : List (Nat × Value) := (List.range nL).filterMap fun i => if nth als i = aU then none else some (i, vO ad (nth als i))
theorem nth_big : ∀ {als : List AV} {i : Nat}, als.length ≤ i → nth als i = aU
  | [], _, _ => rfl
  | _ :: r, 0, h => absurd h (by simp)
  | _ :: r, n + 1, h => nth_big (als := r) (by simpa using h)
theorem nth_set : ∀ {als : List AV} {i : Nat} (v : AV) (j : Nat), i < als.length → nth (setN als i v) j = if j = i then v else nth als j
  | [], _, _, _, h => absurd h (by simp)
  | _ :: r, 0, v, 0, _ => rfl
  | _ :: r, 0, v, j + 1, _ => rfl
  | _ :: r, i + 1, v, 0, _ => rfl
  | _ :: r, i + 1, v, j + 1, h => by
    show nth (setN r i v) j = _
    rw [nth_set v j (by simpa using h)]
    by_cases e : j = i
    · simp [e]
    · simp [e, nth]
theorem set_len : ∀ (als : List AV) (i : Nat) (v : AV), (setN als i v).length = als.length
  | [], _, _ => rfl
  | _ :: r, 0, v => rfl
  | _ :: r, i + 1, v => by simp [setN, set_len r i v]
theorem set_mem : ∀ {als : List AV} {i : Nat} {v a : AV}, a ∈ setN als i v → a ∈ als ∨ a = v
  | [], _, _, _, h => by simp [setN] at h
  | x :: r, 0, v, a, h => by
    simp only [setN, List.mem_cons] at h
    rcases h with h | h
    · exact Or.inr h
    · exact Or.inl (List.mem_cons_of_mem _ h)
  | x :: r, i + 1, v, a, h => by
    simp only [setN, List.mem_cons] at h
    rcases h with h | h
    · exact Or.inl (by simp [h])
    · rcases set_mem h with h | h
      · exact Or.inl (List.mem_cons_of_mem _ h)
      · exact Or.inr h
theorem set_big : ∀ {als : List AV} {i : Nat} {v : AV}, als.length ≤ i → setN als i v = als
  | [], _, _, _ => rfl
  | _ :: r, 0, _, h => absurd h (by simp)
  | a :: r, n + 1, v, h => by
    show a :: setN r n v = a :: r
    rw [set_big (als := r) (by simpa using h)]
def isRef : AV → Bool
  | .inr (.inr (.inl _)) => true
  | _ => false
theorem nth_mem : ∀ {als : List AV} {i : Nat}, nth als i ≠ aU → nth als i ∈ als
  | [], _, h => absurd rfl h
  | a :: r, 0, _ => List.mem_cons_self
  | _ :: r, n + 1, h => List.mem_cons_of_mem _ (nth_mem (als := r) (i := n) h)
theorem lvl_mem {ad : Loc3 → Nat} {nL : Nat} {als : List AV} {q : Nat × Value} : q ∈ lvl ad nL als ↔ q.1 < nL ∧ nth als q.1 ≠ aU ∧ q.2 = vO ad (nth als q.1) := by
  obtain ⟨i, v⟩ := q
  simp only [lvl, List.mem_filterMap, List.mem_range]
  constructor
  · rintro ⟨j, hj, h⟩
    split at h
    · cases h
    · rename_i hne
      cases h
      exact ⟨hj, hne, rfl⟩
  · rintro ⟨h1, h2, h3⟩
    exact ⟨i, h1, by rw [if_neg h2, h3]⟩
theorem LSo.has {ad : Loc3 → Nat} {nL : Nat} {als : List AV} {ls : Array Slot} (h : LSo ad nL als ls) : lv_has ls nL (lvl ad nL als) := ⟨h.2.1, h.2.2.1, fun q hq => by
  obtain ⟨-, h2, h3⟩ := lvl_mem.mp hq
  rw [h3]
  exact h.2.2.2 _ h2⟩
theorem cat_vO {ad : Loc3 → Nat} {a : AV} (h : isLong a = false) : (vO ad a).category = 1 := by
  rcases a with x | x | x | x <;> first | rfl | cases h
theorem cat_vO2 {ad : Loc3 → Nat} {a : AV} : (vO ad a).category = catA a := by
  rcases a with x | x | x | x <;> rfl
theorem catS_sum {ad : Loc3 → Nat} : ∀ (st : List AV), ((st.map (vO ad)).map fun v => v.category).sum = catS st
  | [] => rfl
  | a :: r => by
    simp only [List.map_cons, List.sum_cons, catS, cat_vO2]
    rw [catS_sum r]
theorem clr_len (als : List AV) (i : Nat) : (clrL als i).length = als.length := by
  cases i with
  | zero => rfl
  | succ n => exact set_len _ _ _
theorem noLong_cat {a : AV} (h : noLong a ≠ aU) : noLong a = a ∧ isLong a = false := by
  rcases a with x | x | x | x
  · exact ⟨rfl, rfl⟩
  · exact absurd rfl h
  · exact ⟨rfl, rfl⟩
  · exact ⟨rfl, rfl⟩
/-- what is left: as it was, and no long ahead of i -/
theorem clr_nth {als : List AV} {i j : Nat} (h : nth (clrL als i) j ≠ aU) : nth (clrL als i) j = nth als j ∧ (j + 1 = i → isLong (nth als j) = false) := by
  cases i with
  | zero => exact ⟨rfl, fun h => by omega⟩
  | succ n =>
    simp only [clrL] at h ⊢
    by_cases hn : n < als.length
    · rw [nth_set _ j hn] at h ⊢
      by_cases e : j = n
      · subst e
        rw [if_pos rfl] at h ⊢
        exact ⟨(noLong_cat h).1, fun _ => (noLong_cat h).2⟩
      · rw [if_neg e]
        exact ⟨rfl, fun q => absurd (Nat.succ.inj q) e⟩
    · have e : setN als n (noLong (nth als n)) = als := set_big (Nat.le_of_not_lt hn)
      rw [e] at h ⊢
      refine ⟨rfl, fun q => ?_⟩
      have : j = n := Nat.succ.inj q
      subst this
      exact absurd (nth_big (Nat.le_of_not_lt hn)) h
theorem clr_mem {als : List AV} {i : Nat} {a : AV} (h : a ∈ clrL als i) : a ∈ als ∨ isRef a = false := by
  cases i with
  | zero => exact Or.inl h
  | succ n =>
    rcases set_mem h with q | q
    · exact Or.inl q
    · by_cases hn : nth als n = aU
      · rw [q, hn]; exact Or.inr rfl
      · by_cases h2 : noLong (nth als n) = aU
        · rw [q, h2]; exact Or.inr rfl
        · rw [q, (noLong_cat h2).1]
          exact Or.inl (nth_mem hn)
/-- one place of the locals is another -/
theorem LSo.set {ad : Loc3 → Nat} {nL : Nat} {als : List AV} {ls ls' : Array Slot} {i : Nat} {v : AV} (h : LSo ad nL als ls) (hi : i < nL) (hv : lv_has ls' nL ((i, vO ad v) :: (lvl ad nL als).filter fun q => !(q.1 == i) && !(q.1 + 1 == i && q.2.category == 2))) : LSo ad nL (setN (clrL als i) i v) ls' := by
  refine ⟨by rw [set_len, clr_len]; exact h.1, hv.1, hv.2.1, fun j hj => ?_⟩
  rw [nth_set v j (by rw [clr_len, h.1]; exact hi)] at hj ⊢
  by_cases e : j = i
  · subst e
    rw [if_pos rfl]
    exact hv.2.2 (j, vO ad v) List.mem_cons_self
  · rw [if_neg e] at hj ⊢
    obtain ⟨c1, c2⟩ := clr_nth hj
    rw [c1] at hj ⊢
    refine hv.2.2 (j, vO ad (nth als j)) (List.mem_cons_of_mem _ (List.mem_filter.mpr ⟨lvl_mem.mpr ⟨?_, hj, rfl⟩, ?_⟩))
    · rcases Nat.lt_or_ge j nL with q | q
      · exact q
      · exact absurd (nth_big (by rw [h.1]; exact q)) hj
    · have h1 : (j == i) = false := by simpa using e
      by_cases e2 : j + 1 = i
      · have h3 : (vO ad (nth als j)).category = 1 := cat_vO (c2 e2)
        simp [h1, h3]
      · have h2 : (j + 1 == i) = false := by simpa using e2
        simp [h1, h2]
/-- a long's two places -/
theorem LSo.setL {ad : Loc3 → Nat} {nL : Nat} {als : List AV} {ls ls' : Array Slot} {i : Nat} {x : Int64} (h : LSo ad nL als ls) (hi : i + 1 < nL) (hv : lv_has ls' nL ((i, Value.long x) :: (lvl ad nL als).filter fun q => !(q.1 == i) && (!(q.1 == i + 1) && !(q.1 + 1 == i && q.2.category == 2)))) : LSo ad nL (setN (setN (clrL als i) i (aL x)) (i + 1) aU) ls' := by
  refine ⟨by rw [set_len, set_len, clr_len]; exact h.1, hv.1, hv.2.1, fun j hj => ?_⟩
  rw [nth_set aU j (by rw [set_len, clr_len, h.1]; exact hi), nth_set (aL x) j (by rw [clr_len, h.1]; omega)] at hj ⊢
  by_cases e0 : j = i + 1
  · rw [if_pos e0] at hj
    exact absurd rfl hj
  rw [if_neg e0] at hj ⊢
  by_cases e : j = i
  · subst e
    rw [if_pos rfl]
    exact hv.2.2 (j, Value.long x) List.mem_cons_self
  · rw [if_neg e] at hj ⊢
    obtain ⟨c1, c2⟩ := clr_nth hj
    rw [c1] at hj ⊢
    refine hv.2.2 (j, vO ad (nth als j)) (List.mem_cons_of_mem _ (List.mem_filter.mpr ⟨lvl_mem.mpr ⟨?_, hj, rfl⟩, ?_⟩))
    · rcases Nat.lt_or_ge j nL with q | q
      · exact q
      · exact absurd (nth_big (by rw [h.1]; exact q)) hj
    · have h1 : (j == i) = false := by simpa using e
      have h0 : (j == i + 1) = false := by simpa using e0
      by_cases e2 : j + 1 = i
      · have h3 : (vO ad (nth als j)).category = 1 := cat_vO (c2 e2)
        simp [h0, h1, h3]
      · have h2 : (j + 1 == i) = false := by simpa using e2
        simp [h1, h2, h0]
def ov (ad : Loc3 → Nat) : AV → Option Value
  | .inr (.inr (.inr _)) => none
  | a => some (vO ad a)
def Qm (E : EV) (v : AV) (M' : Mem) : Array Value → State → Outcome → State → Prop := fun _ st o t => o = .returned (ov E.2.1 v) ∧ va_P E.1 cls (wsE E M') t.heap ∧ okM M' ∧ vA E.2.2.2 v ∧ va_F (Ast E) st t
def Wm (E : EV) (p : Program) (l : Launch) (e : Env) (d : Nat) (s : State) (m : MethodId) (args : Array Value) (below : List Frame) (meth : Method) (c : Code) (nL : Nat) (pc : Nat) (als st : List AV) (M : Mem) (v : AV) (M' : Mem) : Prop :=
  ∀ (H : Heap) (locs : List Loc) (ls : Array Slot), va_P E.1 cls (wsE E M) H → va_S (Ast E) s.heap H locs → okM M → (∀ a ∈ als, vA E.2.2.2 a) → (∀ a ∈ st, vA E.2.2.2 a) → LSo E.2.1 nL als ls →
    W p l e (rmD d) s m args below meth c H locs 0 0 (MQ below (Qm E v M') args s 0 0 (Ast E)) (F0 m pc ls (st.map (vO E.2.1)))
def Cx (E : EV) (p : Program) (s : State) (m : MethodId) (args : Array Value) (meth : Method) (c : Code) (own : String) (bytes : ByteArray) (nL : Nat) (ret : Option FieldType) : Prop :=
  p.tables.exec = Jvm.exec ∧ c.code = bytes ∧ c.maxLocals = nL ∧ s.vm.findClass own = some m.cls ∧ (∀ w ∈ tbT, w.before args s = true) ∧ meth.sig.returnType = ret ∧ meth.locks = false ∧ va_K E.1 cls (tysE E) s ∧ ZK E s s.heap ∧ EOK E
def SemOK (E : EV) (l : Launch) (d : Nat) (own : String) (bytes : ByteArray) (nL : Nat) (ret : Option FieldType) {α : Type} (out : α → AV × Mem) (x : Ent α) : Prop :=
  ∀ (p : Program) (e : Env) (s : State) (m : MethodId) (args : Array Value) (below : List Frame) (meth : Method) (c : Code), Cx E p s m args meth c own bytes nL ret → ∀ (nx : Nx α) (jp : Jm α) (rt : Rt α) (als st : List AV) (M : Mem) (res : α), x.2.2.2 nx jp rt als st M = some res →
    (∀ als st M, nx als st M = some res → Wm E p l e d s m args below meth c nL (x.2.1 + x.2.2.1) als st M (out res).1 (out res).2) →
    (∀ t als st M, jp t als st M = some res → Wm E p l e d s m args below meth c nL t als st M (out res).1 (out res).2) →
    (∀ v M, rt v M = some res → out res = (v, M)) → Wm E p l e d s m args below meth c nL x.2.1 als st M (out res).1 (out res).2
section Oks
variable {E : EV} {l : Launch} {d : Nat} {own : String} {bytes : ByteArray} {nL : Nat} {ret : Option FieldType} {α : Type} {out : α → AV × Mem} {b : Bool} {pc : Nat}
theorem ok_iconst {n : Int} {v : Int32} (hv : Int32.ofInt n = v) (hd : decode bytes pc = .ok (.iconst n, 1)) : SemOK E l d own bytes nL ret out (b, pc, 1, sC v) := by
  intro p e s m args below meth c C nx jp rt als st M res h hn hj hr H locs ls hP hS hM hVa hVs hL
  exact lv_iconst C.1 C.2.1 hd hv (hn _ _ _ h H locs ls hP hS hM hVa (List.forall_mem_cons.mpr ⟨trivial, hVs⟩) hL)
theorem ok_bipush {n : Int} {v : Int32} (hv : (Int8.ofInt n).toInt32 = v) (hd : decode bytes pc = .ok (.bipush n, 2)) : SemOK E l d own bytes nL ret out (b, pc, 2, sC v) := by
  intro p e s m args below meth c C nx jp rt als st M res h hn hj hr H locs ls hP hS hM hVa hVs hL
  exact lv_bipush C.1 C.2.1 hd hv (hn _ _ _ h H locs ls hP hS hM hVa (List.forall_mem_cons.mpr ⟨trivial, hVs⟩) hL)
theorem ok_sipush {n : Int} {v : Int32} (hv : (Int16.ofInt n).toInt32 = v) (hd : decode bytes pc = .ok (.sipush n, 3)) : SemOK E l d own bytes nL ret out (b, pc, 3, sC v) := by
  intro p e s m args below meth c C nx jp rt als st M res h hn hj hr H locs ls hP hS hM hVa hVs hL
  exact lv_sipush C.1 C.2.1 hd hv (hn _ _ _ h H locs ls hP hS hM hVa (List.forall_mem_cons.mpr ⟨trivial, hVs⟩) hL)
theorem ok_ldc {i : Nat} {v : Int32} (hc : Cond.constant own i v ∈ tbT) (hd : decode bytes pc = .ok (.ldc i, 2)) : SemOK E l d own bytes nL ret out (b, pc, 2, sC v) := by
  intro p e s m args below meth c C nx jp rt als st M res h hn hj hr H locs ls hP hS hM hVa hVs hL
  exact lv_ldc C.1 C.2.1 C.2.2.2.1 (C.2.2.2.2.1 _ hc) hd (hn _ _ _ h H locs ls hP hS hM hVa (List.forall_mem_cons.mpr ⟨trivial, hVs⟩) hL)
theorem ok_ldcw {i : Nat} {v : Int32} (hc : Cond.constant own i v ∈ tbT) (hd : decode bytes pc = .ok (.ldc_w i, 3)) : SemOK E l d own bytes nL ret out (b, pc, 3, sC v) := by
  intro p e s m args below meth c C nx jp rt als st M res h hn hj hr H locs ls hP hS hM hVa hVs hL
  exact lv_ldcw C.1 C.2.1 C.2.2.2.1 (C.2.2.2.2.1 _ hc) hd (hn _ _ _ h H locs ls hP hS hM hVa (List.forall_mem_cons.mpr ⟨trivial, hVs⟩) hL)
theorem ok_ldc2 {i : Nat} {v : Int64} (hc : Cond.constantLong own i v ∈ tbT) (hd : decode bytes pc = .ok (.ldc2_w i, 3)) : SemOK E l d own bytes nL ret out (b, pc, 3, sCL v) := by
  intro p e s m args below meth c C nx jp rt als st M res h hn hj hr H locs ls hP hS hM hVa hVs hL
  exact lv_ldc2 C.1 C.2.1 C.2.2.2.1 (C.2.2.2.2.1 _ hc) hd (hn _ _ _ h H locs ls hP hS hM hVa (List.forall_mem_cons.mpr ⟨trivial, hVs⟩) hL)
theorem ok_lconst {n : Fin 2} {v : Int64} (hv : Int64.ofNat (n : Nat) = v) (hd : decode bytes pc = .ok (.lconst n, 1)) : SemOK E l d own bytes nL ret out (b, pc, 1, sCL v) := by
  intro p e s m args below meth c C nx jp rt als st M res h hn hj hr H locs ls hP hS hM hVa hVs hL
  exact lv_lconst C.1 C.2.1 hd hv (hn _ _ _ h H locs ls hP hS hM hVa (List.forall_mem_cons.mpr ⟨trivial, hVs⟩) hL)
theorem ok_iload {i : Nat} (hd : decode bytes pc = .ok (.iload i, 2)) : SemOK E l d own bytes nL ret out (b, pc, 2, sLdI i) := by
  intro p e s m args below meth c C nx jp rt als st M res h hn hj hr H locs ls hP hS hM hVa hVs hL
  simp only [sLdI] at h
  split at h
  · rename_i x hx
    have h1 := hL.2.2.2 i (by rw [hx]; exact fun q => by cases q)
    rw [hx] at h1
    exact lv_iload C.1 C.2.1 hd h1 (hn _ _ _ h H locs ls hP hS hM hVa (List.forall_mem_cons.mpr ⟨trivial, hVs⟩) hL)
  · cases h
theorem ok_iload_n {k : Fin 4} {i : Nat} (hi : (k : Nat) = i) (hd : decode bytes pc = .ok (.iload_n k, 1)) : SemOK E l d own bytes nL ret out (b, pc, 1, sLdI i) := by
  intro p e s m args below meth c C nx jp rt als st M res h hn hj hr H locs ls hP hS hM hVa hVs hL
  simp only [sLdI] at h
  split at h
  · rename_i x hx
    have h1 := hL.2.2.2 i (by rw [hx]; exact fun q => by cases q)
    rw [hx] at h1
    exact lv_iload_n C.1 C.2.1 hd hi h1 (hn _ _ _ h H locs ls hP hS hM hVa (List.forall_mem_cons.mpr ⟨trivial, hVs⟩) hL)
  · cases h
end Oks
