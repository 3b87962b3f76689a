/-! ===== constructors: a machine whose heap grows; addresses are a base and a place ===== -/
abbrev CV : Type := Int32 ⊕ Option Nat
abbrev VC : Type := Int32 ⊕ (Option Nat ⊕ Unit)
abbrev CC : Type := Nat × List CV
/-- locals, stack, heap, cells and slots made so far -/
abbrev SC : Type := List VC × List VC × List CC × Nat × Nat
def cvV (B : Nat) : CV → Value
  | .inl x => .int x
  | .inr none => .null
  | .inr (some j) => .ref (B + j)
def vcV (B : Nat) : VC → Value
  | .inl x => .int x
  | .inr (.inl none) => .null
  | .inr (.inl (some j)) => .ref (B + j)
  | .inr (.inr _) => .null
def cvI : CV → Int32
  | .inl x => x
  | _ => 0
def cvR : CV → Option Nat
  | .inr r => r
  | _ => none
def cellA (B : Nat) (cT : Nat → ClassId) (c : CC) : va_E :=
  if c.1 < 100 then .inr (c.1, c.2.map (cvV B)) else if c.1 = 100 then .inl (cT 100, c.2.length, .inl fun k => cvI (c.2.getD k (.inl 0))) else if c.1 = 101 then .inl (cT 101, c.2.length, .inl fun k => cvI (c.2.getD k (.inl 0)))
  else .inl (cT (c.1 - 200), c.2.length, .inr (.inr (.inr (.inr fun k => (cvR (c.2.getD k (.inr none))).map (B + ·)))))
def wsA (B : Nat) (cT : Nat → ClassId) (X : List CC) : va_W := X.mapIdx fun j c => (B + j, cellA B cT c)
theorem wsA_at {B : Nat} {cT : Nat → ClassId} {X : List CC} (j : Nat) : (wsA B cT X)[j]? = X[j]?.map fun c => (B + j, cellA B cT c) := by simp [wsA]
theorem wsA_app (B : Nat) (cT : Nat → ClassId) (X : List CC) (c : CC) : wsA B cT (X ++ [c]) = wsA B cT X ++ [(B + X.length, cellA B cT c)] := by simp [wsA, List.mapIdx_append]
theorem wsA_set {B : Nat} {cT : Nat → ClassId} {X : List CC} {j : Nat} (c : CC) {e : va_E} (he : cellA B cT c = e) : (wsA B cT X).set j (B + j, e) = wsA B cT (X.set j c) := by
  subst he
  apply List.ext_getElem?
  intro i
  rw [wsA_at, List.getElem?_set, List.getElem?_set, wsA_at]
  by_cases h : j = i
  · subst h
    simp only [if_true]
    by_cases hl : j < X.length
    · simp [wsA, hl]
    · simp [wsA, hl]
  · simp [h]
theorem wsA_D (B : Nat) (cT : Nat → ClassId) (X : List CC) : va_D (fun q => B ≤ q) (wsA B cT X) := by
  refine ⟨fun i j p q hp hq he => ?_, fun k q hk => ?_⟩
  · rw [wsA_at, Option.map_eq_some_iff] at hp hq
    obtain ⟨a, -, rfl⟩ := hp
    obtain ⟨b, -, rfl⟩ := hq
    exact Nat.add_left_cancel he
  · rw [wsA_at, Option.map_eq_some_iff] at hk
    obtain ⟨a, -, rfl⟩ := hk
    exact Nat.le_add_right _ _
def nthC : List VC → Nat → VC
  | [], _ => .inr (.inr ())
  | a :: _, 0 => a
  | _ :: r, n + 1 => nthC r n
def LSc (B nL : Nat) (cs : List VC) (ls : Array Slot) : Prop := cs.length = nL ∧ ls.size = nL ∧ lv_wf ls ∧ ∀ (i : Nat) (v : VC), cs[i]? = some v → v ≠ .inr (.inr ()) → ls[i]? = some (Slot.val (vcV B v))
theorem vc_cat (B : Nat) (v : VC) : (vcV B v).category = 1 := by
  rcases v with x | (_ | j) | x <;> rfl
theorem vc_sum (B : Nat) : ∀ (st : List VC), ((st.map (vcV B)).map fun v => v.category).sum = st.length
  | [] => rfl
  | a :: r => by
    simp only [List.map_cons, List.sum_cons, vc_cat, List.length_cons]
    rw [vc_sum B r]
    omega
def lvc (B : Nat) (cs : List VC) : List (Nat × Value) := (cs.mapIdx fun i v => (i, v)).filterMap fun q => if q.2 = .inr (.inr ()) then none else some (q.1, vcV B q.2)
theorem lvc_mem {B : Nat} {cs : List VC} {q : Nat × Value} : q ∈ lvc B cs ↔ ∃ v, cs[q.1]? = some v ∧ v ≠ .inr (.inr ()) ∧ q.2 = vcV B v := by
  obtain ⟨i, x⟩ := q
  simp only [lvc, List.mem_filterMap, List.mem_mapIdx]
  constructor
  · rintro ⟨p, ⟨j, hj, rfl⟩, h⟩
    split at h
    · cases h
    · rename_i hne
      cases h
      exact ⟨_, List.getElem?_eq_getElem hj, hne, rfl⟩
  · rintro ⟨v, h1, h2, h3⟩
    obtain ⟨hj, hv⟩ := List.getElem?_eq_some_iff.mp h1
    exact ⟨(i, v), ⟨i, hj, by rw [hv]⟩, by rw [if_neg h2]; dsimp only at h3 ⊢; rw [h3]⟩
theorem LSc.has {B nL : Nat} {cs : List VC} {ls : Array Slot} (h : LSc B nL cs ls) : lv_has ls nL (lvc B cs) := ⟨h.2.1, h.2.2.1, fun q hq => by
  obtain ⟨v, h1, h2, h3⟩ := lvc_mem.mp hq
  rw [h3]
  exact h.2.2.2 _ _ h1 h2⟩
theorem LSc.set {B nL : Nat} {cs : List VC} {ls ls' : Array Slot} {i : Nat} {v : VC} (h : LSc B nL cs ls) (hi : i < nL) (hv : lv_has ls' nL ((i, vcV B v) :: (lvc B cs).filter fun q => !(q.1 == i) && !(q.1 + 1 == i && q.2.category == 2))) : LSc B nL (cs.set i v) ls' := by
  refine ⟨by simp [h.1], hv.1, hv.2.1, fun j x hj hx => ?_⟩
  rw [List.getElem?_set] at hj
  by_cases e : i = j
  · subst e
    rw [if_pos rfl, if_pos (by rw [h.1]; exact hi)] at hj
    cases hj
    exact hv.2.2 (i, vcV B v) List.mem_cons_self
  · rw [if_neg e] at hj
    refine hv.2.2 (j, vcV B x) (List.mem_cons_of_mem _ (List.mem_filter.mpr ⟨lvc_mem.mpr ⟨x, hj, hx, rfl⟩, ?_⟩))
    have h1 : (j == i) = false := by simpa using Ne.symm e
    simp [h1, vc_cat]
/-- the words of a constructor's world -/
def AOs (U : State) : Prop := va_AO RX7 U ∧ va_AO RX1 U ∧ va_AO RX2 U ∧ va_AO RX6 U ∧ va_AO RX0 U ∧ va_AO RX5 U
theorem AOs.moved {u U : State} (hvm : u.vm.Alike U.vm) (h : AOs u) : AOs U := ⟨h.1.moved hvm, h.2.1.moved hvm, h.2.2.1.moved hvm, h.2.2.2.1.moved hvm, h.2.2.2.2.1.moved hvm, h.2.2.2.2.2.moved hvm⟩
/-- class ids and slots, classes of rows, base -/
abbrev EA : Type := va_G × (Nat → ClassId) × Nat
def tysA (E : EA) : List (ClassId × FieldType) := [(E.2.1 100, .int), (E.2.1 101, .byte), (E.2.1 3, .object RX7), (E.2.1 6, .object RX1), (E.2.1 10, .object RX2), (E.2.1 12, .object RX6), (E.2.1 15, .object RX0), (E.2.1 19, .object RX5)]
def rmA (d mc ms : Nat) : Room := { frames := d, cells := mc, slots := ms, locals := 40 * d }
def QA (E : EA) (X' : List CC) : Array Value → State → Outcome → State → Prop := fun _ st o t => o = .returned none ∧ t.heap.size = E.2.2 + X'.length ∧ va_P E.1 cls (wsA E.2.2 E.2.1 X') t.heap ∧ va_F (fun q => E.2.2 ≤ q) st t
def PA (E : EA) (as : List VC) (X : List CC) : Array Value → State → Prop := fun va U => va = (as.map (vcV E.2.2)).toArray ∧ U.heap.size = E.2.2 + X.length ∧ va_P E.1 cls (wsA E.2.2 E.2.1 X) U.heap ∧ va_K E.1 cls (tysA E) U ∧ AOs U ∧ ∀ w ∈ tbT, nestWord w = true → va_Nw w U
def ConA (E : EA) (l : Launch) (d mc ms : Nat) (y : MethodName) (bytes : ByteArray) (nL : Nat) (as : List VC) (X X' : List CC) : Prop :=
  Met l y (Cond.code y bytes nL none :: gwT) (rmA d mc ms) (PA E as X) (QA E X') mc ms (fun q => E.2.2 ≤ q)
def CxA (E : EA) (p : Program) (s : State) (m : MethodId) (args : Array Value) (meth : Method) (c : Code) (own : String) (bytes : ByteArray) (nL : Nat) : Prop :=
  p.tables.exec = Jvm.exec ∧ c.code = bytes ∧ c.maxLocals = nL ∧ s.vm.findClass own = some m.cls ∧ (∀ w ∈ tbT, w.before args s = true) ∧ meth.sig.returnType = none ∧ meth.locks = false ∧ va_K E.1 cls (tysA E) s ∧ AOs s ∧ meth.name = "<init>" ∧ E.2.2 ≤ s.heap.size
def Wc (E : EA) (p : Program) (l : Launch) (e : Env) (d mc ms : Nat) (s : State) (m : MethodId) (args : Array Value) (below : List Frame) (meth : Method) (c : Code) (nL : Nat) (pc : Nat) (σ : SC) (X' : List CC) : Prop :=
  ∀ (H : Heap) (locs : List Loc) (ls : Array Slot), H.size = E.2.2 + σ.2.2.1.length → va_P E.1 cls (wsA E.2.2 E.2.1 σ.2.2.1) H → va_S (fun q => E.2.2 ≤ q) s.heap H locs → LSc E.2.2 nL σ.1 ls →
    W p l e (rmA d mc ms) s m args below meth c H locs σ.2.2.2.1 σ.2.2.2.2 (MQ below (QA E X') args s mc ms (fun q => E.2.2 ≤ q)) (F0 m pc ls (σ.2.1.map (vcV E.2.2)))
abbrev StC : Type := SC → Option (Nat × SC)
abbrev EnC : Type := Nat × (StC ⊕ Unit)
def OkC (E : EA) (l : Launch) (d mc ms : Nat) (own : String) (bytes : ByteArray) (nL : Nat) (x : EnC) : Prop :=
  ∀ (p : Program) (e : Env) (s : State) (m : MethodId) (args : Array Value) (below : List Frame) (meth : Method) (c : Code), CxA E p s m args meth c own bytes nL → ∀ (X' : List CC), match x.2 with
    | .inl f => ∀ σ pc' σ', f σ = some (pc', σ') → Wc E p l e d mc ms s m args below meth c nL pc' σ' X' → Wc E p l e d mc ms s m args below meth c nL x.1 σ X'
    | .inr _ => ∀ ls cc sc, cc ≤ mc → sc ≤ ms → Wc E p l e d mc ms s m args below meth c nL x.1 (ls, [], X', cc, sc) X'
def cC (pc n : Nat) (v : Int32) : StC := fun σ => some (pc + n, (σ.1, .inl v :: σ.2.1, σ.2.2))
def cLd (pc i : Nat) : StC := fun σ => match σ.1[i]? with
  | some (.inl x) => some (pc + 1, (σ.1, .inl x :: σ.2.1, σ.2.2))
  | _ => none
def cLdA (pc i : Nat) : StC := fun σ => match σ.1[i]? with
  | some (.inr (.inl (some j))) => some (pc + 1, (σ.1, .inr (.inl (some j)) :: σ.2.1, σ.2.2))
  | _ => none
def cSt (pc i : Nat) : StC := fun σ => match σ.2.1 with
  | .inl x :: st => some (pc + 1, (σ.1.set i (.inl x), st, σ.2.2))
  | _ => none
def cInc (pc i : Nat) : StC := fun σ => match σ.1[i]? with
  | some (.inl x) => some (pc + 3, (σ.1.set i (.inl (x + 1)), σ.2.1, σ.2.2))
  | _ => none
def cGoto (t : Nat) : StC := fun σ => some (t, σ)
def cGe (pc t : Nat) : StC := fun σ => match σ.2.1 with
  | .inl y :: .inl x :: st => some (if y ≤ x then t else pc + 3, (σ.1, st, σ.2.2))
  | _ => none
def cNe (pc t : Nat) : StC := fun σ => match σ.2.1 with
  | .inl y :: .inl x :: st => some (if x = y then pc + 3 else t, (σ.1, st, σ.2.2))
  | _ => none
def cBin0 (pc : Nat) (f : Int32 → Int32 → Int32) : StC := fun σ => match σ.2.1 with
  | .inl y :: .inl x :: st => if y = 0 then none else some (pc + 1, (σ.1, .inl (f x y) :: st, σ.2.2))
  | _ => none
def cDup (pc : Nat) : StC := fun σ => match σ.2.1 with
  | a :: st => some (pc + 1, (σ.1, a :: a :: st, σ.2.2))
  | _ => none
/-- an object of class ci with its first values -/
def cNew (pc ci : Nat) (fs : List CV) (mc ms : Nat) : StC := fun σ => if σ.2.2.2.1 + 1 ≤ mc ∧ σ.2.2.2.2 + fs.length ≤ ms then some (pc + 3, (σ.1, .inr (.inl (some σ.2.2.1.length)) :: σ.2.1, σ.2.2.1 ++ [(ci, fs)], σ.2.2.2.1 + 1, σ.2.2.2.2 + fs.length)) else none
/-- a row: code 100 ints, 101 bytes, 200 + region references -/
def cNewa (pc len code : Nat) (v : CV) (mc ms : Nat) : StC := fun σ => match σ.2.1 with
  | .inl n :: st => if n < 0 ∨ 2000 < n.toNatClampNeg ∨ mc < σ.2.2.2.1 + 1 ∨ ms < σ.2.2.2.2 + n.toNatClampNeg then none else some (pc + len, (σ.1, .inr (.inl (some σ.2.2.1.length)) :: st, σ.2.2.1 ++ [(code, List.replicate n.toNatClampNeg v)], σ.2.2.2.1 + 1, σ.2.2.2.2 + n.toNatClampNeg))
  | _ => none
def cGet (pc ci k : Nat) : StC := fun σ => match σ.2.1 with
  | .inr (.inl (some j)) :: st => match σ.2.2.1[j]? with
    | some (c, fs) => if c = ci then match fs[k]? with
        | some (.inl x) => some (pc + 3, (σ.1, .inl x :: st, σ.2.2))
        | some (.inr r) => some (pc + 3, (σ.1, .inr (.inl r) :: st, σ.2.2))
        | none => none
      else none
    | none => none
  | _ => none
def cPut (pc ci k : Nat) : StC := fun σ => match σ.2.1 with
  | .inr (.inl (some v)) :: .inr (.inl (some j)) :: st => match σ.2.2.1[j]? with
    | some (c, fs) => if c = ci ∧ k < fs.length then some (pc + 3, (σ.1, st, σ.2.2.1.set j (c, fs.set k (.inr (some v))), σ.2.2.2)) else none
    | none => none
  | _ => none
def cPutI (pc ci k : Nat) : StC := fun σ => match σ.2.1 with
  | .inl v :: .inr (.inl (some j)) :: st => match σ.2.2.1[j]? with
    | some (c, fs) => if c = ci ∧ k < fs.length then some (pc + 3, (σ.1, st, σ.2.2.1.set j (c, fs.set k (.inl v)), σ.2.2.2)) else none
    | none => none
  | _ => none
def cAast (pc tr ci : Nat) : StC := fun σ => match σ.2.1 with
  | .inr (.inl (some v)) :: .inl x :: .inr (.inl (some j)) :: st => match σ.2.2.1[j]?, σ.2.2.1[v]? with
    | some (c, fs), some (c2, _) => if c = 200 + tr ∧ c2 = ci ∧ ¬ (x < 0 ∨ fs.length ≤ x.toNatClampNeg) then some (pc + 1, (σ.1, st, σ.2.2.1.set j (c, fs.set x.toNatClampNeg (.inr (some v))), σ.2.2.2)) else none
    | _, _ => none
  | _ => none
def cIast (pc : Nat) : StC := fun σ => match σ.2.1 with
  | .inl v :: .inl x :: .inr (.inl (some j)) :: st => match σ.2.2.1[j]? with
    | some (c, fs) => if c = 100 ∧ ¬ (x < 0 ∨ fs.length ≤ x.toNatClampNeg) then some (pc + 1, (σ.1, st, σ.2.2.1.set j (c, fs.set x.toNatClampNeg (.inl v)), σ.2.2.2)) else none
    | none => none
  | _ => none
def cObj (pc : Nat) : StC := fun σ => match σ.2.1 with
  | .inr (.inl (some _)) :: st => if st.length ≤ 8 then some (pc + 3, (σ.1, st, σ.2.2)) else none
  | _ => none
def cInit (pc : Nat) (den : Nat → List CC → Option (List CC)) (mc' ms' mc ms : Nat) : StC := fun σ => match σ.2.1 with
  | .inr (.inl (some j)) :: st => if st.length ≤ 8 ∧ σ.2.2.2.1 + mc' ≤ mc ∧ σ.2.2.2.2 + ms' ≤ ms then (den j σ.2.2.1).map fun X => (pc + 3, (σ.1, st, X, σ.2.2.2.1 + mc', σ.2.2.2.2 + ms')) else none
  | _ => none
def seekC : List EnC → Nat → Option EnC
  | [], _ => none
  | e :: r, pc => match Nat.beq e.1 pc with
    | true => some e
    | false => seekC r pc
def runC (code : List EnC) (mc ms : Nat) : Nat → Nat → SC → Option (List CC)
  | 0, _, _ => none
  | n + 1, pc, σ => match seekC code pc with
    | none => none
    | some (_, .inl f) => match f σ with
      | none => none
      | some (pc', σ') => runC code mc ms n pc' σ'
    | some (_, .inr _) => match σ.2.1 with
      | [] => if σ.2.2.2.1 ≤ mc ∧ σ.2.2.2.2 ≤ ms then some σ.2.2.1 else none
      | _ => none
