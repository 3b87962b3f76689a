/-! ===== the abstract machine: values, memory by regions, semantics of instructions as small functions ===== -/
abbrev Loc3 : Type := Nat × Nat × Nat
abbrev AV : Type := Int32 ⊕ (Int64 ⊕ (Loc3 ⊕ Unit))
abbrev Mem : Type := Nat → Nat → Nat → Nat → Int32
abbrev aI (x : Int32) : AV := .inl x
abbrev aL (x : Int64) : AV := .inr (.inl x)
abbrev aR (q : Loc3) : AV := .inr (.inr (.inl q))
abbrev aU : AV := .inr (.inr (.inr ()))
def up (M : Mem) (r w i k : Nat) (v : Int32) : Mem := fun r' w' i' k' => if r' = r ∧ w' = w ∧ i' = i ∧ k' = k then v else M r' w' i' k'
/-- a stretch of one row comes from another -/
def cpM (M : Mem) (r w i sp w2 i2 dp n : Nat) : Mem := fun r' w' i' k' => if r' = r ∧ w' = w2 ∧ i' = i2 ∧ dp ≤ k' ∧ k' < dp + n then M r w i (sp + (k' - dp)) else M r' w' i' k'
def nth : List AV → Nat → AV
  | [], _ => aU
  | a :: _, 0 => a
  | _ :: r, n + 1 => nth r n
def setN : List AV → Nat → AV → List AV
  | [], _, _ => []
  | _ :: r, 0, v => v :: r
  | a :: r, n + 1, v => a :: setN r n v
def isLong : AV → Bool
  | .inr (.inl _) => true
  | _ => false
def noLong : AV → AV
  | .inr (.inl _) => aU
  | a => a
/-- a long that begins at the place ahead of i is gone -/
def clrL (ls : List AV) : Nat → List AV
  | 0 => ls
  | n + 1 => setN ls n (noLong (nth ls n))
def catA : AV → Nat
  | .inr (.inl _) => 2
  | _ => 1
def catS : List AV → Nat
  | [] => 0
  | a :: r => catA a + catS r
section Sems
variable {α : Type}
abbrev Nx (α : Type) : Type := List AV → List AV → Mem → Option α
abbrev Jm (α : Type) : Type := Nat → Nx α
abbrev Rt (α : Type) : Type := AV → Mem → Option α
abbrev Sem (α : Type) : Type := Nx α → Jm α → Rt α → Nx α
/-- cut?, pc, length, meaning -/
abbrev Ent (α : Type) : Type := Bool × Nat × Nat × Sem α
abbrev Den (α : Type) : Type := List AV → Mem → (AV → Mem → Option α) → Option α
def sC (c : Int32) : Sem α := fun nx _ _ ls st M => nx ls (aI c :: st) M
def sCL (c : Int64) : Sem α := fun nx _ _ ls st M => nx ls (aL c :: st) M
def sLdI (i : Nat) : Sem α := fun nx _ _ ls st M => match nth ls i with
  | .inl x => nx ls (aI x :: st) M
  | _ => none
def sLdL (i : Nat) : Sem α := fun nx _ _ ls st M => match nth ls i with
  | .inr (.inl x) => nx ls (aL x :: st) M
  | _ => none
def sLdA (i : Nat) : Sem α := fun nx _ _ ls st M => match nth ls i with
  | .inr (.inr (.inl q)) => nx ls (aR q :: st) M
  | _ => none
def sStI (i : Nat) : Sem α := fun nx _ _ ls st M => match st with
  | .inl x :: st => nx (setN (clrL ls i) i (aI x)) st M
  | _ => none
def sStA (i : Nat) : Sem α := fun nx _ _ ls st M => match st with
  | .inr (.inr (.inl q)) :: st => nx (setN (clrL ls i) i (aR q)) st M
  | _ => none
def sStL (i : Nat) : Sem α := fun nx _ _ ls st M => match st with
  | .inr (.inl x) :: st => nx (setN (setN (clrL ls i) i (aL x)) (i + 1) aU) st M
  | _ => none
def sInc (i : Nat) (c : Int32) : Sem α := fun nx _ _ ls st M => match nth ls i with
  | .inl x => nx (setN (clrL ls i) i (aI (x + c))) st M
  | _ => none
def sBin (f : Int32 → Int32 → Int32) : Sem α := fun nx _ _ ls st M => match st with
  | .inl y :: .inl x :: st => nx ls (aI (f x y) :: st) M
  | _ => none
/-- a quotient or a remainder: the divisor isn't 0 -/
def sBin0 (f : Int32 → Int32 → Int32) : Sem α := fun nx _ _ ls st M => match st with
  | .inl y :: .inl x :: st => if y = 0 then none else nx ls (aI (f x y) :: st) M
  | _ => none
def sUn (f : Int32 → Int32) : Sem α := fun nx _ _ ls st M => match st with
  | .inl x :: st => nx ls (aI (f x) :: st) M
  | _ => none
def sBinL (f : Int64 → Int64 → Int64) : Sem α := fun nx _ _ ls st M => match st with
  | .inr (.inl y) :: .inr (.inl x) :: st => nx ls (aL (f x y) :: st) M
  | _ => none
def sShL (f : Int64 → Int32 → Int64) : Sem α := fun nx _ _ ls st M => match st with
  | .inl y :: .inr (.inl x) :: st => nx ls (aL (f x y) :: st) M
  | _ => none
def sI2L : Sem α := fun nx _ _ ls st M => match st with
  | .inl x :: st => nx ls (aL x.toInt64 :: st) M
  | _ => none
def sL2I : Sem α := fun nx _ _ ls st M => match st with
  | .inr (.inl x) :: st => nx ls (aI x.toInt32 :: st) M
  | _ => none
def sLcmp : Sem α := fun nx _ _ ls st M => match st with
  | .inr (.inl y) :: .inr (.inl x) :: st => nx ls (aI (lg_cmp x y) :: st) M
  | _ => none
def sDup : Sem α := fun nx _ _ ls st M => match st with
  | a :: st => match isLong a with
    | true => none
    | false => nx ls (a :: a :: st) M
  | _ => none
def sPop : Sem α := fun nx _ _ ls st M => match st with
  | a :: st => match isLong a with
    | true => none
    | false => nx ls st M
  | _ => none
def sDupX1 : Sem α := fun nx _ _ ls st M => match st with
  | a :: b :: st => match isLong a || isLong b with
    | true => none
    | false => nx ls (a :: b :: a :: st) M
  | _ => none
def sDup2 : Sem α := fun nx _ _ ls st M => match st with
  | a :: b :: st => match isLong a || isLong b with
    | true => none
    | false => nx ls (a :: b :: a :: b :: st) M
  | _ => none
def sGoto (t : Nat) : Sem α := fun _ jp _ ls st M => jp t ls st M
def sIfEq (t : Nat) : Sem α := fun nx jp _ ls st M => match st with
  | .inl x :: st => if x = 0 then jp t ls st M else nx ls st M
  | _ => none
def sIfNe (t : Nat) : Sem α := fun nx jp _ ls st M => match st with
  | .inl x :: st => if x = 0 then nx ls st M else jp t ls st M
  | _ => none
def sIfLt (t : Nat) : Sem α := fun nx jp _ ls st M => match st with
  | .inl x :: st => if x < 0 then jp t ls st M else nx ls st M
  | _ => none
def sIfGe (t : Nat) : Sem α := fun nx jp _ ls st M => match st with
  | .inl x :: st => if x < 0 then nx ls st M else jp t ls st M
  | _ => none
def sIfGt (t : Nat) : Sem α := fun nx jp _ ls st M => match st with
  | .inl x :: st => if x ≤ 0 then nx ls st M else jp t ls st M
  | _ => none
def sIfLe (t : Nat) : Sem α := fun nx jp _ ls st M => match st with
  | .inl x :: st => if x ≤ 0 then jp t ls st M else nx ls st M
  | _ => none
def sCmpEq (t : Nat) : Sem α := fun nx jp _ ls st M => match st with
  | .inl y :: .inl x :: st => if x = y then jp t ls st M else nx ls st M
  | _ => none
def sCmpNe (t : Nat) : Sem α := fun nx jp _ ls st M => match st with
  | .inl y :: .inl x :: st => if x = y then nx ls st M else jp t ls st M
  | _ => none
def sCmpLt (t : Nat) : Sem α := fun nx jp _ ls st M => match st with
  | .inl y :: .inl x :: st => if x < y then jp t ls st M else nx ls st M
  | _ => none
def sCmpGe (t : Nat) : Sem α := fun nx jp _ ls st M => match st with
  | .inl y :: .inl x :: st => if x < y then nx ls st M else jp t ls st M
  | _ => none
def sCmpGt (t : Nat) : Sem α := fun nx jp _ ls st M => match st with
  | .inl y :: .inl x :: st => if x ≤ y then nx ls st M else jp t ls st M
  | _ => none
def sCmpLe (t : Nat) : Sem α := fun nx jp _ ls st M => match st with
  | .inl y :: .inl x :: st => if x ≤ y then jp t ls st M else nx ls st M
  | _ => none
def swGo (x : Int32) (f : Nat → Option α) (d : Nat) : List (Int32 × Nat) → Option α
  | [] => f d
  | (k, t) :: r => if x = k then f t else swGo x f d r
def sSw (d : Nat) (tb : List (Int32 × Nat)) : Sem α := fun _ jp _ ls st M => match st with
  | .inl x :: st => swGo x (fun t => jp t ls st M) d tb
  | _ => none
/-- the place of an index in a row of n -/
def ixx (x : Int32) (n : Nat) (f : Nat → Option α) : Option α := if x < 0 ∨ n ≤ x.toNatClampNeg then none else f x.toNatClampNeg
def sGet (r : Nat) (gv : Nat → Nat → Mem → AV) : Sem α := fun nx _ _ ls st M => match st with
  | .inr (.inr (.inl (r', w, i))) :: st => match Nat.beq r' r with
    | true => nx ls (gv w i M :: st) M
    | false => none
  | _ => none
def sPut (r k : Nat) : Sem α := fun nx _ _ ls st M => match st with
  | .inl v :: .inr (.inr (.inl (r', w, i))) :: st => match Nat.beq r' r with
    | true => nx ls st (up M r w i k v)
    | false => none
  | _ => none
/-- a boolean field -/
def sPutZ (r k : Nat) : Sem α := fun nx _ _ ls st M => match st with
  | .inl v :: .inr (.inr (.inl (r', w, i))) :: st => match Nat.beq r' r with
    | true => if v = 0 ∨ v = 1 then nx ls st (up M r w i k v) else none
    | false => none
  | _ => none
/-- the reader's text -/
def sPutT : Sem α := fun nx _ _ ls st M => match st with
  | .inr (.inr (.inl (r2, w2, i2))) :: .inr (.inr (.inl (r', w, i))) :: st => match Nat.beq r' 17 && Nat.beq r2 13 with
    | true => if w2 = w then nx ls st (up M 17 w i 0 (Int32.ofNat i2)) else none
    | false => none
  | _ => none
def sIald (r : Nat) (n : Nat) : Sem α := fun nx _ _ ls st M => match st with
  | .inl x :: .inr (.inr (.inl (r', w, i))) :: st => match Nat.beq r' r with
    | true => ixx x n fun k => nx ls (aI (M r w i k) :: st) M
    | false => none
  | _ => none
def sIast (r : Nat) (n : Nat) : Sem α := fun nx _ _ ls st M => match st with
  | .inl v :: .inl x :: .inr (.inr (.inl (r', w, i))) :: st => match Nat.beq r' r with
    | true => ixx x n fun k => nx ls st (up M r w i k v)
    | false => none
  | _ => none
def lenB (i : Nat) : Nat := if i < 13 then 50 else 0
def sBald : Sem α := fun nx _ _ ls st M => match st with
  | .inl x :: .inr (.inr (.inl (r', w, i))) :: st => match Nat.beq r' 13 with
    | true => ixx x (lenB i) fun k => nx ls (aI (M 13 w i k) :: st) M
    | false => none
  | _ => none
def sBast : Sem α := fun nx _ _ ls st M => match st with
  | .inl v :: .inl x :: .inr (.inr (.inl (r', w, i))) :: st => match Nat.beq r' 13 with
    | true => ixx x (lenB i) fun k => nx ls st (up M 13 w i k v.toInt8.toInt32)
    | false => none
  | _ => none
def sBlen : Sem α := fun nx _ _ ls st M => match st with
  | .inr (.inr (.inl (r', w, i))) :: st => match Nat.beq r' 13 with
    | true => nx ls (aI (Int32.ofNat (lenB i)) :: st) M
    | false => none
  | _ => none
def sAald (r n tr : Nat) : Sem α := fun nx _ _ ls st M => match st with
  | .inl x :: .inr (.inr (.inl (r', w, i))) :: st => match Nat.beq r' r with
    | true => ixx x n fun k => nx ls (aR (tr, w, k) :: st) M
    | false => none
  | _ => none
def sGs (q : Loc3) : Sem α := fun nx _ _ ls st M => nx ls (aR q :: st) M
/-- a row of constants -/
def sTald (r n : Nat) (tab : Nat → Int32) : Sem α := fun nx _ _ ls st M => match st with
  | .inl x :: .inr (.inr (.inl (r', w, i))) :: st => match Nat.beq r' r with
    | true => ixx x n fun k => nx ls (aI (tab k) :: st) M
    | false => none
  | _ => none
/-- arraycopy within a region, as a statement of its own (nothing else on the stack) -/
def sCopy (r : Nat) (len : Nat → Nat) : Sem α := fun nx _ _ ls st M => match st with
  | [.inl n, .inl dp, .inr (.inr (.inl (r2, w2, i2))), .inl sp, .inr (.inr (.inl (r1, w1, i1)))] => match Nat.beq r1 r && Nat.beq r2 r with
    | true => if sp < 0 ∨ dp < 0 ∨ n < 0 ∨ len i1 < sp.toNatClampNeg + n.toNatClampNeg ∨ len i2 < dp.toNatClampNeg + n.toNatClampNeg then none else nx ls [] (cpM M r w1 i1 sp.toNatClampNeg w2 i2 dp.toNatClampNeg n.toNatClampNeg)
    | false => none
  | _ => none
/-- the n uppermost of a stack, the lowest first -/
def tk : Nat → List AV → List AV → Option (List AV × List AV)
  | 0, st, acc => some (acc, st)
  | _ + 1, [], _ => none
  | n + 1, a :: st, acc => tk n st (a :: acc)
def sInv (n : Nat) (hr : Bool) (den : Den α) : Sem α := fun nx _ _ ls st M => match tk n st [] with
  | some (as, st) => match Nat.ble (catS st) 8 with
    | true => den as M fun v M => match hr with
      | true => nx ls (v :: st) M
      | false => nx ls st M
    | false => none
  | none => none
def sRetI : Sem α := fun _ _ rt _ st M => match st with
  | [.inl v] => rt (aI v) M
  | _ => none
def sRetZ : Sem α := fun _ _ rt _ st M => match st with
  | [.inl v] => if v = 0 ∨ v = 1 then rt (aI v) M else none
  | _ => none
def sRetL : Sem α := fun _ _ rt _ st M => match st with
  | [.inr (.inl v)] => rt (aL v) M
  | _ => none
def sRetA : Sem α := fun _ _ rt _ st M => match st with
  | [.inr (.inr (.inl q))] => rt (aR q) M
  | _ => none
def sRetV : Sem α := fun _ _ rt _ st M => match st with
  | [] => rt aU M
  | _ => none
def seek : List (Ent α) → Nat → List (Ent α)
  | [], _ => []
  | e :: r, pc => match Nat.beq e.2.1 pc with
    | true => e :: r
    | false => seek r pc
def run (code : List (Ent α)) (K : Jm α) (rt : Rt α) : Nat → List (Ent α) → Nx α
  | 0, _ => fun _ _ _ => none
  | _ + 1, [] => fun _ _ _ => none
  | n + 1, e :: r => e.2.2.2
      (fun ls st M => match r with
        | [] => none
        | e2 :: _ => match e2.1 with
          | true => K e2.2.1 ls st M
          | false => run code K rt n r ls st M)
      (fun t ls st M => match seek code t with
        | [] => none
        | e2 :: r2 => match e2.1 with
          | true => K t ls st M
          | false => run code K rt n (e2 :: r2) ls st M)
      rt
end Sems
