/-! ===== the relation between the class's memory and the reference's row ===== -/
/-! texts, read by the grammar: the place of the fault, or the acts and the place behind -/
abbrev RR : Type := Nat ⊕ (List Int32 × Nat)
def sgN (t : Nat → Int32) (n p : Nat) : Nat := if p < n then (t p &&& 255).toNatClampNeg else 256
def nmN (use b : Nat) : Nat :=
  if use = 0 then (if b = 104 then 1 else if b = 109 then 2 else if b = 115 then 3 else 0)
  else if use = 1 then (if b = 110 then 1 else if b = 112 then 2 else 0)
  else if use = 2 then (if b = 108 then 1 else if b = 111 then 2 else 0)
  else (if b = 99 then 1 else 0)
def pNum (sg : Nat → Nat) : Nat → Nat → Nat → Nat × Nat
  | 0, v, p => (v, p)
  | k + 1, v, p => if 48 ≤ sg p ∧ sg p ≤ 57 then pNum sg k (v * 10 + sg p - 48) (p + 1) else (v, p)
def pChain (sg : Nat → Nat) (op : Nat → Bool) (sub : Nat → RR) : Nat → List Int32 → Nat → RR
  | 0, c, p => .inr (c, p)
  | k + 1, c, p => if op (sg p) = true then (match sub (p + 1) with
    | .inl q => .inl q
    | .inr (c2, p2) => pChain sg op sub k (c ++ (c2 ++ [-100 - nI (sg p)])) p2) else .inr (c, p)
def pLvl (sg : Nat → Nat) (op : Nat → Bool) (sub : Nat → RR) (p : Nat) : RR := match sub p with
  | .inl q => .inl q
  | .inr (c, p1) => pChain sg op sub 50 c p1
def isMulB (b : Nat) : Bool := Nat.beq b 42 || Nat.beq b 47
def isAddB (b : Nat) : Bool := Nat.beq b 43 || Nat.beq b 45
def isCmpB (b : Nat) : Bool := Nat.beq b 60 || (Nat.beq b 61 || Nat.beq b 62)
def isAndB (b : Nat) : Bool := Nat.beq b 38
def isOrB (b : Nat) : Bool := Nat.beq b 124
def pCmp (sg : Nat → Nat) (sub : Nat → RR) (p : Nat) : RR := match sub p with
  | .inl q => .inl q
  | .inr (c, p1) => if isCmpB (sg p1) = true then (match sub (p1 + 1) with
    | .inl q => .inl q
    | .inr (c2, p2) => .inr (c ++ (c2 ++ [-100 - nI (sg p1)]), p2)) else .inr (c, p1)
def pMul (sg : Nat → Nat) (sing : Nat → RR) : Nat → RR := pLvl sg isMulB sing
def pAdd (sg : Nat → Nat) (sing : Nat → RR) : Nat → RR := pLvl sg isAddB (pMul sg sing)
def pRel (sg : Nat → Nat) (sing : Nat → RR) : Nat → RR := pCmp sg (pAdd sg sing)
def pAnd (sg : Nat → Nat) (sing : Nat → RR) : Nat → RR := pLvl sg isAndB (pRel sg sing)
def pOr (sg : Nat → Nat) (sing : Nat → RR) : Nat → RR := pLvl sg isOrB (pAnd sg sing)
def pOne (sg : Nat → Nat) (use : Nat) (inn : Option (Nat → RR)) (p : Nat) : RR :=
  if 48 ≤ sg p ∧ sg p ≤ 57 then .inr ([nI (pNum sg 4 0 p).1], (pNum sg 4 0 p).2)
  else if sg p = 33 then (match inn with
    | none => .inl p
    | some g => match g (p + 1) with
      | .inl q => .inl q
      | .inr (c, p2) => .inr (c ++ [-133], p2))
  else if sg p = 40 then (match inn with
    | none => .inl p
    | some g => match pOr sg g (p + 1) with
      | .inl q => .inl q
      | .inr (c, p2) => if sg p2 = 41 then .inr (c, p2 + 1) else .inl p2)
  else if nmN use (sg p) = 0 then .inl p else .inr ([-nI (nmN use (sg p))], p + 1)
/-- how many may be opened yet -/
def pSing (sg : Nat → Nat) (use : Nat) : Nat → Nat → RR
  | 0 => pOne sg use none
  | o + 1 => pOne sg use (some (pSing sg use o))
def pText (sg : Nat → Nat) (n use : Nat) : RR := match pOr sg (pSing sg use 5) 0 with
  | .inl q => .inl q
  | .inr (c, p) => if p < n then .inl p else .inr (c, p)
/-! how many there are, and the day: 0 towns, 1 roads, 2 companies, 3 lances, 4 statutes, 5 bonds, 6 the day, 7 the tape, 8 what waits -/
def slC (k : Nat) : Nat := [2, 3, 6, 8, 10, 12, 0, 14, 16].getD k 99
def bdC (k : Nat) : Nat := [8, 16, 5, 40, 12, 24, 3000, 50, 20].getD k 0
def cn (f : Row) (k : Nat) : Nat := (f k).toNatClampNeg
theorem cn_same {f f' : Row} {k : Nat} (h : f' k = f k) : cn f' k = cn f k := by unfold cn; rw [h]
theorem cn_nI {f : Row} {k n : Nat} (h : f k = nI n) (hn : n < 2 ^ 31) : cn f k = n := by unfold cn; rw [h, nI_clamp hn]
def XC (M : Mem) (w : Nat) (f : Row) : Prop := ∀ k, k < 9 → M 1 w 0 (slC k) = f k ∧ f k = nI (cn f k) ∧ cn f k ≤ bdC k
theorem XC.e0 {M : Mem} {w : Nat} {f : Row} (h : XC M w f) : M 1 w 0 2 = f 0 := (h 0 (by decide)).1
theorem XC.n0 {M : Mem} {w : Nat} {f : Row} (h : XC M w f) : f 0 = nI (cn f 0) := (h 0 (by decide)).2.1
theorem XC.b0 {M : Mem} {w : Nat} {f : Row} (h : XC M w f) : cn f 0 ≤ 8 := (h 0 (by decide)).2.2
theorem XC.e1 {M : Mem} {w : Nat} {f : Row} (h : XC M w f) : M 1 w 0 3 = f 1 := (h 1 (by decide)).1
theorem XC.n1 {M : Mem} {w : Nat} {f : Row} (h : XC M w f) : f 1 = nI (cn f 1) := (h 1 (by decide)).2.1
theorem XC.b1 {M : Mem} {w : Nat} {f : Row} (h : XC M w f) : cn f 1 ≤ 16 := (h 1 (by decide)).2.2
theorem XC.e2 {M : Mem} {w : Nat} {f : Row} (h : XC M w f) : M 1 w 0 6 = f 2 := (h 2 (by decide)).1
theorem XC.n2 {M : Mem} {w : Nat} {f : Row} (h : XC M w f) : f 2 = nI (cn f 2) := (h 2 (by decide)).2.1
theorem XC.b2 {M : Mem} {w : Nat} {f : Row} (h : XC M w f) : cn f 2 ≤ 5 := (h 2 (by decide)).2.2
theorem XC.e3 {M : Mem} {w : Nat} {f : Row} (h : XC M w f) : M 1 w 0 8 = f 3 := (h 3 (by decide)).1
theorem XC.n3 {M : Mem} {w : Nat} {f : Row} (h : XC M w f) : f 3 = nI (cn f 3) := (h 3 (by decide)).2.1
theorem XC.b3 {M : Mem} {w : Nat} {f : Row} (h : XC M w f) : cn f 3 ≤ 40 := (h 3 (by decide)).2.2
theorem XC.e4 {M : Mem} {w : Nat} {f : Row} (h : XC M w f) : M 1 w 0 10 = f 4 := (h 4 (by decide)).1
theorem XC.n4 {M : Mem} {w : Nat} {f : Row} (h : XC M w f) : f 4 = nI (cn f 4) := (h 4 (by decide)).2.1
theorem XC.b4 {M : Mem} {w : Nat} {f : Row} (h : XC M w f) : cn f 4 ≤ 12 := (h 4 (by decide)).2.2
theorem XC.e5 {M : Mem} {w : Nat} {f : Row} (h : XC M w f) : M 1 w 0 12 = f 5 := (h 5 (by decide)).1
theorem XC.n5 {M : Mem} {w : Nat} {f : Row} (h : XC M w f) : f 5 = nI (cn f 5) := (h 5 (by decide)).2.1
theorem XC.b5 {M : Mem} {w : Nat} {f : Row} (h : XC M w f) : cn f 5 ≤ 24 := (h 5 (by decide)).2.2
theorem XC.e6 {M : Mem} {w : Nat} {f : Row} (h : XC M w f) : M 1 w 0 0 = f 6 := (h 6 (by decide)).1
theorem XC.n6 {M : Mem} {w : Nat} {f : Row} (h : XC M w f) : f 6 = nI (cn f 6) := (h 6 (by decide)).2.1
theorem XC.b6 {M : Mem} {w : Nat} {f : Row} (h : XC M w f) : cn f 6 ≤ 3000 := (h 6 (by decide)).2.2
theorem XC.e7 {M : Mem} {w : Nat} {f : Row} (h : XC M w f) : M 1 w 0 14 = f 7 := (h 7 (by decide)).1
theorem XC.n7 {M : Mem} {w : Nat} {f : Row} (h : XC M w f) : f 7 = nI (cn f 7) := (h 7 (by decide)).2.1
theorem XC.b7 {M : Mem} {w : Nat} {f : Row} (h : XC M w f) : cn f 7 ≤ 50 := (h 7 (by decide)).2.2
theorem XC.e8 {M : Mem} {w : Nat} {f : Row} (h : XC M w f) : M 1 w 0 16 = f 8 := (h 8 (by decide)).1
theorem XC.n8 {M : Mem} {w : Nat} {f : Row} (h : XC M w f) : f 8 = nI (cn f 8) := (h 8 (by decide)).2.1
theorem XC.b8 {M : Mem} {w : Nat} {f : Row} (h : XC M w f) : cn f 8 ≤ 20 := (h 8 (by decide)).2.2
/-- a town: coin, bread, wall, guns -/
def XT1 (B : Nat) (M : Mem) (w : Nat) (f : Row) (t : Nat) : Prop := (∀ k, k < 4 → M 3 w t k = f (20 + 4 * t + k)) ∧ isN (f (20 + 4 * t)) (100000 + 10000 * B) ∧ isN (f (20 + 4 * t + 1)) 1000000
/-- roads: between which towns, how long; the fewest days -/
def KR (f : Row) : Prop := ∀ r, r < cn f 1 → ∃ a b d : Nat, a < cn f 0 ∧ b < cn f 0 ∧ a ≠ b ∧ 1 ≤ d ∧ d ≤ 9 ∧ f (52 + 3 * r) = nI a ∧ f (52 + 3 * r + 1) = nI b ∧ f (52 + 3 * r + 2) = nI d
def rd (f : Row) (a b d : Nat) : Prop := ∃ r, r < cn f 1 ∧ f (52 + 3 * r + 2) = nI d ∧ ((f (52 + 3 * r) = nI a ∧ f (52 + 3 * r + 1) = nI b) ∨ (f (52 + 3 * r) = nI b ∧ f (52 + 3 * r + 1) = nI a))
/-- a walk of k roads, n days -/
def wk (f : Row) : Nat → Nat → Nat → Nat → Prop
  | 0, a, b, n => a = b ∧ n = 0
  | k + 1, a, b, n => ∃ c m d, c < 8 ∧ d < 10 ∧ wk f k a c m ∧ rd f c b d ∧ n = m + d
def NOW : Nat := 1000000
def Met3 (f : Row) (D : Nat → Nat → Nat) : Prop := (∀ a, a < 8 → D a a = 0) ∧ (∀ a x y d, a < 8 → x < 8 → y < 8 → d < 10 → rd f x y d → D a y ≤ D a x + d) ∧ (∀ a b, a < 8 → b < 8 → D a b = NOW ∨ (D a b ≤ 9 * (2 ^ cn f 1 - 1) ∧ ∃ k, wk f k a b (D a b)))
def XR (M : Mem) (w : Nat) (f : Row) : Prop := KR f ∧ ∃ D, Met3 f D ∧ ∀ a b, a < 8 → b < 8 → M 4 w 0 (a * 8 + b) = nI (D a b)
/-- a company -/
def slP (k : Nat) : Nat := [0, 1, 5, 2, 3, 4, 99, 99, 6, 7, 8, 9].getD k 99
def XP1 (B : Nat) (M : Mem) (w : Nat) (f : Row) (c : Nat) : Prop :=
  (M 6 w c 0 = f (100 + 24 * c) ∧ M 6 w c 1 = f (100 + 24 * c + 1) ∧ M 6 w c 2 = f (100 + 24 * c + 5) ∧ M 6 w c 3 = f (100 + 24 * c + 2) ∧ M 6 w c 8 = f (100 + 24 * c + 6) ∧ M 6 w c 9 = f (100 + 24 * c + 7) ∧ M 6 w c 11 = f (100 + 24 * c + 9)) ∧
  (f (100 + 24 * c + 2) < 0 → M 6 w c 4 = f (100 + 24 * c + 3) ∧ M 6 w c 5 = f (100 + 24 * c + 4)) ∧ (¬ f (100 + 24 * c + 7) < 0 → M 6 w c 10 = f (100 + 24 * c + 8)) ∧ (∀ j, j < cn f (100 + 24 * c + 9) → M 7 w c j = f (100 + 24 * c + 10 + j)) ∧
  isN (f (100 + 24 * c + 1)) (10000 * (B + 1)) ∧ (isN (f (100 + 24 * c + 2)) (cn f 0) ∨ (f (100 + 24 * c + 2) = -1 ∧ isN (f (100 + 24 * c + 3)) (cn f 0))) ∧ isN (f (100 + 24 * c + 9)) 13 ∧
  ((f (100 + 24 * c + 7) = -1 ∧ f (100 + 24 * c + 9) = 0) ∨ (isN (f (100 + 24 * c + 7)) 3001 ∧ isN (f (100 + 24 * c + 8)) (cn f 0)))
/-- how many of a company's lances are so -/
def cL (f : Row) (c h : Nat) : Nat := fb_ct (fun l => decide (f (220 + 5 * l) = nI c ∧ f (220 + 5 * l + 3) = nI h)) (cn f 3)
def XN (M : Mem) (w : Nat) (f : Row) : Prop := ∀ c, c < cn f 2 → M 6 w c 6 = nI (cL f c 0) ∧ M 6 w c 7 = nI (cL f c 1)
def XL1 (M : Mem) (w : Nat) (f : Row) (l : Nat) : Prop := (∀ k, k < 5 → M 10 w l k = f (220 + 5 * l + k)) ∧ isN (f (220 + 5 * l)) (cn f 2) ∧ isN (f (220 + 5 * l + 3)) 4 ∧ (f (220 + 5 * l + 4) = -1 ∨ isN (f (220 + 5 * l + 4)) (cn f 0))
/-- a statute: its use, from when; its text read are its acts -/
def XS1 (M : Mem) (w : Nat) (f : Row) (s : Nat) : Prop := M 12 w s 0 = f (420 + 53 * s) ∧ M 12 w s 1 = f (420 + 53 * s + 1) ∧ isN (f (420 + 53 * s)) 4 ∧
  ∃ (n p : Nat) (c : List Int32), M 12 w s 2 = nI n ∧ n ≤ 50 ∧ pText (sgN (M 13 w s) n) n (cn f (420 + 53 * s)) = .inr (c, p) ∧ f (420 + 53 * s + 2) = nI c.length ∧ c.length ≤ 50 ∧ ∀ k, k < c.length → f (420 + 53 * s + 3 + k) = c.getD k 0
/-- a contract or a renewal -/
def isCt (k : Int32) : Prop := k = 1 ∨ k = 2
/-- a bond: kind, company, days, sum, town, foe, other, owed, since when, left of advances, renewed -/
def XB1 (B : Nat) (M : Mem) (w : Nat) (f : Row) (b : Nat) : Prop := (∀ k, k < 12 → M 15 w b k = f (1056 + 14 * b + k)) ∧ (isN (f (1056 + 14 * b)) 7 ∧ f (1056 + 14 * b) ≠ 0) ∧ isN (f (1056 + 14 * b + 1)) (cn f 2) ∧
  ((f (1056 + 14 * b + 2) = -1 ∧ f (1056 + 14 * b + 3) = -1) ∨ (isN (f (1056 + 14 * b + 2)) 3001 ∧ isN (f (1056 + 14 * b + 3)) 3001 ∧ f (1056 + 14 * b + 2) ≤ f (1056 + 14 * b + 3))) ∧
  (isCt (f (1056 + 14 * b)) → isN (f (1056 + 14 * b + 5)) (cn f 0) ∧ ¬ f (1056 + 14 * b + 2) = -1) ∧ isN (f (1056 + 14 * b + 8)) (100000 * (cn f 6 / 30) + 1) ∧
  ((f (1056 + 14 * b + 8) = 0 ∧ f (1056 + 14 * b + 9) = -1) ∨ (f (1056 + 14 * b + 8) ≠ 0 ∧ isN (f (1056 + 14 * b + 9)) 3001)) ∧ isN (f (1056 + 14 * b + 10)) (10000 * B + 1) ∧ (f (1056 + 14 * b + 11) = 0 ∨ f (1056 + 14 * b + 11) = 1)
def XT (B : Nat) (M : Mem) (w : Nat) (f : Row) : Prop := ∀ t, t < cn f 0 → XT1 B M w f t
def XP (B : Nat) (M : Mem) (w : Nat) (f : Row) : Prop := ∀ c, c < cn f 2 → XP1 B M w f c
def XL (M : Mem) (w : Nat) (f : Row) : Prop := ∀ l, l < cn f 3 → XL1 M w f l
def XS (M : Mem) (w : Nat) (f : Row) : Prop := ∀ s, s < cn f 4 → XS1 M w f s
def XB (B : Nat) (M : Mem) (w : Nat) (f : Row) : Prop := ∀ b, b < cn f 5 → XB1 B M w f b
def XW (M : Mem) (w : Nat) (f : Row) : Prop := ∀ c, c < cn f 2 → ∀ t, t < 8 → M 8 w c t = f (1392 + 8 * c + t) ∧ isN (f (1392 + 8 * c + t)) 10000
def XA (M : Mem) (w : Nat) (f : Row) : Prop := ∀ j, j < cn f 7 → M 13 w 12 j &&& 255 = f (1432 + j)
def XQ (M : Mem) (w : Nat) (f : Row) : Prop := ∀ j, j < cn f 8 → M 16 w 0 j = f (1482 + j)
def RW (B : Nat) (M : Mem) (w : Nat) (f : Row) : Prop := XC M w f ∧ XT B M w f ∧ XR M w f ∧ XP B M w f ∧ XN M w f ∧ XL M w f ∧ XS M w f ∧ XB B M w f ∧ XW M w f ∧ XA M w f ∧ XQ M w f
theorem RW.c {B : Nat} {M : Mem} {w : Nat} {f : Row} (h : RW B M w f) : XC M w f := h.1
theorem RW.t {B : Nat} {M : Mem} {w : Nat} {f : Row} (h : RW B M w f) : XT B M w f := h.2.1
theorem RW.r {B : Nat} {M : Mem} {w : Nat} {f : Row} (h : RW B M w f) : XR M w f := h.2.2.1
theorem RW.p {B : Nat} {M : Mem} {w : Nat} {f : Row} (h : RW B M w f) : XP B M w f := h.2.2.2.1
theorem RW.f {B : Nat} {M : Mem} {w : Nat} {f : Row} (h : RW B M w f) : XN M w f := h.2.2.2.2.1
theorem RW.l {B : Nat} {M : Mem} {w : Nat} {f : Row} (h : RW B M w f) : XL M w f := h.2.2.2.2.2.1
theorem RW.s {B : Nat} {M : Mem} {w : Nat} {f : Row} (h : RW B M w f) : XS M w f := h.2.2.2.2.2.2.1
theorem RW.b {B : Nat} {M : Mem} {w : Nat} {f : Row} (h : RW B M w f) : XB B M w f := h.2.2.2.2.2.2.2.1
theorem RW.w {B : Nat} {M : Mem} {w : Nat} {f : Row} (h : RW B M w f) : XW M w f := h.2.2.2.2.2.2.2.2.1
theorem RW.a {B : Nat} {M : Mem} {w : Nat} {f : Row} (h : RW B M w f) : XA M w f := h.2.2.2.2.2.2.2.2.2.1
theorem RW.q {B : Nat} {M : Mem} {w : Nat} {f : Row} (h : RW B M w f) : XQ M w f := h.2.2.2.2.2.2.2.2.2.2
/-- sheets, what was found, the trace, how many images -/
def RO (M N : Mem) : Prop := M 0 0 0 7 = N 40 0 0 4 ∧ (∀ k, k < 6 → M 26 0 0 k = N 44 0 0 k) ∧
  (∀ s, s < 4 → M 19 0 s 0 = N 64 0 0 s ∧ M 19 0 s 1 = N 65 0 0 s ∧ isN (N 65 0 0 s) 25 ∧ ∀ i, i < 24 → M 20 0 s i = N 66 0 0 (24 * s + i)) ∧
  (M 21 0 0 1 = N 40 0 0 22 ∧ isN (N 40 0 0 22) 41 ∧ ∀ i, i < cn (N 40 0 0) 22 → M 22 0 0 i = N 62 0 0 i)
def Rel (B : Nat) (M N : Mem) : Prop := RW B M 0 (N 41 0 0) ∧ (N 40 0 0 4 = 0 ∨ RW B M 1 (N 42 0 0)) ∧ RO M N
/-! components under changes elsewhere -/
theorem XC.cong {M M' : Mem} {w w' : Nat} {f f' : Row} (h : XC M w f) (hM : ∀ k, k < 9 → M' 1 w' 0 (slC k) = M 1 w 0 (slC k)) (hf : ∀ k, k < 9 → f' k = f k) : XC M' w' f' := by
  intro k hk
  obtain ⟨h1, h2, h3⟩ := h k hk
  rw [hM k hk, hf k hk, cn_same (hf k hk)]
  exact ⟨h1, h2, h3⟩
theorem XT1.cong {B B' : Nat} {M M' : Mem} {w w' : Nat} {f f' : Row} {t : Nat} (h : XT1 B M w f t) (hB : B ≤ B') (hM : ∀ k, k < 4 → M' 3 w' t k = M 3 w t k) (hf : ∀ k, 20 + 4 * t ≤ k → k < 24 + 4 * t → f' k = f k) : XT1 B' M' w' f' t := by
  obtain ⟨h1, h2, h3⟩ := h
  refine ⟨fun k hk => ?_, ?_, ?_⟩
  · rw [hM k hk, hf _ (by omega) (by omega)]
    exact h1 k hk
  · rw [hf _ (by omega) (by omega)]
    exact h2.mono (by omega)
  · rw [hf _ (by omega) (by omega)]
    exact h3
theorem rd_same {f f' : Row} (h1 : f' 1 = f 1) (hb : cn f 1 ≤ 16) (hf : ∀ k, 52 ≤ k → k < 100 → f' k = f k) {a b d : Nat} : rd f' a b d ↔ rd f a b d := by
  unfold rd
  rw [cn_same h1]
  constructor
  · rintro ⟨r, hr, h⟩
    rw [hf _ (by omega) (by omega), hf _ (by omega) (by omega), hf _ (by omega) (by omega)] at h
    exact ⟨r, hr, h⟩
  · rintro ⟨r, hr, h⟩
    refine ⟨r, hr, ?_⟩
    rw [hf _ (by omega) (by omega), hf _ (by omega) (by omega), hf _ (by omega) (by omega)]
    exact h
theorem wk_same {f f' : Row} (h1 : f' 1 = f 1) (hb : cn f 1 ≤ 16) (hf : ∀ k, 52 ≤ k → k < 100 → f' k = f k) : ∀ {k a b n : Nat}, wk f' k a b n ↔ wk f k a b n := by
  intro k
  induction k with
  | zero => intro a b n; exact Iff.rfl
  | succ k ih =>
    intro a b n
    simp only [wk, ih, rd_same h1 hb hf]
theorem XR.cong {M M' : Mem} {w w' : Nat} {f f' : Row} (h : XR M w f) (hb : cn f 1 ≤ 16) (hM : ∀ k, k < 64 → M' 4 w' 0 k = M 4 w 0 k) (h0 : cn f 0 ≤ cn f' 0) (h1 : f' 1 = f 1) (hf : ∀ k, 52 ≤ k → k < 100 → f' k = f k) : XR M' w' f' := by
  obtain ⟨hK, D, ⟨d1, d2, d3⟩, hD⟩ := h
  refine ⟨fun r hr => ?_, D, ⟨d1, fun a x y d ha hx hy hd q => d2 a x y d ha hx hy hd ((rd_same h1 hb hf).mp q), fun a b ha hb' => ?_⟩, fun a b ha hb => by rw [hM _ (by omega)]; exact hD a b ha hb⟩
  · rw [cn_same h1] at hr
    obtain ⟨a, b, d, q1, q2, q3, q4, q5, q6, q7, q8⟩ := hK r hr
    refine ⟨a, b, d, by omega, by omega, q3, q4, q5, ?_, ?_, ?_⟩
    · rw [hf _ (by omega) (by omega)]; exact q6
    · rw [hf _ (by omega) (by omega)]; exact q7
    · rw [hf _ (by omega) (by omega)]; exact q8
  · rw [cn_same h1]
    rcases d3 a b ha hb' with q | ⟨q1, k, q2⟩
    · exact .inl q
    · exact .inr ⟨q1, k, (wk_same h1 hb hf).mpr q2⟩
theorem XP1.cong {B B' : Nat} {M M' : Mem} {w w' : Nat} {f f' : Row} {c : Nat} (h : XP1 B M w f c) (hB : B ≤ B') (hM : ∀ k, k < 12 → k ≠ 6 → k ≠ 7 → M' 6 w' c k = M 6 w c k) (hM7 : ∀ k, k < 12 → M' 7 w' c k = M 7 w c k) (h0 : cn f 0 ≤ cn f' 0) (hf : ∀ k, 100 + 24 * c ≤ k → k < 124 + 24 * c → f' k = f k) : XP1 B' M' w' f' c := by
  have e0 := hf (100 + 24 * c) (by omega) (by omega)
  have e1 := hf (100 + 24 * c + 1) (by omega) (by omega)
  have e2 := hf (100 + 24 * c + 2) (by omega) (by omega)
  have e3 := hf (100 + 24 * c + 3) (by omega) (by omega)
  have e4 := hf (100 + 24 * c + 4) (by omega) (by omega)
  have e5 := hf (100 + 24 * c + 5) (by omega) (by omega)
  have e6 := hf (100 + 24 * c + 6) (by omega) (by omega)
  have e7 := hf (100 + 24 * c + 7) (by omega) (by omega)
  have e8 := hf (100 + 24 * c + 8) (by omega) (by omega)
  have e9 := hf (100 + 24 * c + 9) (by omega) (by omega)
  obtain ⟨h1, h2, h3, h4, h5, h6, h7, h8⟩ := h
  unfold XP1
  rw [e0, e1, e2, e3, e4, e5, e6, e7, e8, e9, cn_same e9, hM 0 (by decide) (by decide) (by decide), hM 1 (by decide) (by decide) (by decide), hM 2 (by decide) (by decide) (by decide), hM 3 (by decide) (by decide) (by decide), hM 4 (by decide) (by decide) (by decide), hM 5 (by decide) (by decide) (by decide), hM 8 (by decide) (by decide) (by decide), hM 9 (by decide) (by decide) (by decide), hM 10 (by decide) (by decide) (by decide), hM 11 (by decide) (by decide) (by decide)]
  refine ⟨h1, h2, h3, fun j hj => ?_, h5.mono (by omega), h6.imp (fun q => q.mono h0) (fun q => ⟨q.1, q.2.mono h0⟩), h7, h8.imp id (fun q => ⟨q.1, q.2.mono h0⟩)⟩
  have hj2 : j < 12 := by
    obtain ⟨n, hn, he⟩ := h7
    have := cn_nI (f := f) he (by omega)
    omega
  rw [hM7 j hj2, hf _ (by omega) (by omega)]
  exact h4 j hj
theorem cL_same {f f' : Row} {c h : Nat} (h3 : f' 3 = f 3) (hb : cn f 3 ≤ 40) (hf : ∀ k, 220 ≤ k → k < 420 → f' k = f k) : cL f' c h = cL f c h := by
  unfold cL
  rw [cn_same h3]
  refine fb_ct_cong fun k hk => ?_
  rw [hf _ (by omega) (by omega), hf _ (by omega) (by omega)]
theorem XN.cong {M M' : Mem} {w w' : Nat} {f f' : Row} (h : XN M w f) (hb : cn f 3 ≤ 40) (hM : ∀ c, c < cn f 2 → M' 6 w' c 6 = M 6 w c 6 ∧ M' 6 w' c 7 = M 6 w c 7) (h2 : f' 2 = f 2) (h3 : f' 3 = f 3) (hf : ∀ k, 220 ≤ k → k < 420 → f' k = f k) : XN M' w' f' := by
  intro c hc
  rw [cn_same h2] at hc
  rw [(hM c hc).1, (hM c hc).2, cL_same h3 hb hf, cL_same h3 hb hf]
  exact h c hc
theorem XL1.cong {M M' : Mem} {w w' : Nat} {f f' : Row} {l : Nat} (h : XL1 M w f l) (hM : ∀ k, k < 5 → M' 10 w' l k = M 10 w l k) (h0 : cn f 0 ≤ cn f' 0) (h2 : cn f 2 ≤ cn f' 2) (hf : ∀ k, 220 + 5 * l ≤ k → k < 225 + 5 * l → f' k = f k) : XL1 M' w' f' l := by
  obtain ⟨q1, q2, q3, q4⟩ := h
  refine ⟨fun k hk => ?_, ?_, ?_, ?_⟩
  · rw [hM k hk, hf _ (by omega) (by omega)]; exact q1 k hk
  · rw [hf _ (by omega) (by omega)]; exact q2.mono h2
  · rw [hf _ (by omega) (by omega)]; exact q3
  · rw [hf _ (by omega) (by omega)]; exact q4.imp id (fun q => q.mono h0)
theorem XS1.cong {M M' : Mem} {w w' : Nat} {f f' : Row} {s : Nat} (h : XS1 M w f s) (hM : ∀ k, k < 3 → M' 12 w' s k = M 12 w s k) (hT : ∀ k, k < 50 → M' 13 w' s k = M 13 w s k) (hf : ∀ k, 420 + 53 * s ≤ k → k < 473 + 53 * s → f' k = f k) : XS1 M' w' f' s := by
  obtain ⟨q1, q2, q3, n, p, c, r1, r2, r3, r4, r5, r6⟩ := h
  have e0 := hf (420 + 53 * s) (by omega) (by omega)
  have eT : sgN (M' 13 w' s) n = sgN (M 13 w s) n := by
    funext q
    unfold sgN
    by_cases hq : q < n
    · rw [if_pos hq, if_pos hq, hT q (by omega)]
    · rw [if_neg hq, if_neg hq]
  refine ⟨by rw [hM 0 (by decide), e0]; exact q1, by rw [hM 1 (by decide), hf _ (by omega) (by omega)]; exact q2, by rw [e0]; exact q3, n, p, c, by rw [hM 2 (by decide)]; exact r1, r2, by rw [eT, cn_same e0]; exact r3, by rw [hf _ (by omega) (by omega)]; exact r4, r5, fun k hk => ?_⟩
  rw [hf _ (by omega) (by omega)]
  exact r6 k hk
theorem XB1.cong {B B' : Nat} {M M' : Mem} {w w' : Nat} {f f' : Row} {b : Nat} (h : XB1 B M w f b) (hB : B ≤ B') (hM : ∀ k, k < 12 → M' 15 w' b k = M 15 w b k) (h0 : cn f 0 ≤ cn f' 0) (h2 : cn f 2 ≤ cn f' 2) (h6 : cn f 6 ≤ cn f' 6) (hf : ∀ k, 1056 + 14 * b ≤ k → k < 1068 + 14 * b → f' k = f k) : XB1 B' M' w' f' b := by
  obtain ⟨q1, q2, q3, q4, q5, q6, q7, q8, q9⟩ := h
  have e : ∀ k, k < 12 → f' (1056 + 14 * b + k) = f (1056 + 14 * b + k) := fun k hk => hf _ (by omega) (by omega)
  have e0 : f' (1056 + 14 * b) = f (1056 + 14 * b) := e 0 (by decide)
  unfold XB1
  rw [e0, e 1 (by decide), e 2 (by decide), e 3 (by decide), e 5 (by decide), e 8 (by decide), e 9 (by decide), e 10 (by decide), e 11 (by decide)]
  refine ⟨fun k hk => by rw [hM k hk, e k hk]; exact q1 k hk, q2, q3.mono h2, q4, fun z => ⟨(q5 z).1.mono h0, (q5 z).2⟩, q6.mono ?_, q7, q8.mono (by omega), q9⟩
  have := Nat.div_le_div_right (c := 30) h6
  omega
theorem XW.cong {M M' : Mem} {w w' : Nat} {f f' : Row} (h : XW M w f) (hb : cn f 2 ≤ 5) (hM : ∀ c, c < cn f 2 → ∀ k, k < 8 → M' 8 w' c k = M 8 w c k) (h2 : f' 2 = f 2) (hf : ∀ k, 1392 ≤ k → k < 1432 → f' k = f k) : XW M' w' f' := by
  intro c hc t ht
  rw [cn_same h2] at hc
  rw [hM c hc t ht, hf _ (by omega) (by omega)]
  exact h c hc t ht
theorem XA.cong {M M' : Mem} {w w' : Nat} {f f' : Row} (h : XA M w f) (hb : cn f 7 ≤ 50) (hM : ∀ k, k < 50 → M' 13 w' 12 k = M 13 w 12 k) (h7 : f' 7 = f 7) (hf : ∀ k, 1432 ≤ k → k < 1482 → f' k = f k) : XA M' w' f' := by
  intro j hj
  rw [cn_same h7] at hj
  rw [hM j (by omega), hf _ (by omega) (by omega)]
  exact h j hj
theorem XQ.cong {M M' : Mem} {w w' : Nat} {f f' : Row} (h : XQ M w f) (hb : cn f 8 ≤ 20) (hM : ∀ k, k < 20 → M' 16 w' 0 k = M 16 w 0 k) (h8 : f' 8 = f 8) (hf : ∀ k, 1482 ≤ k → k < 1502 → f' k = f k) : XQ M' w' f' := by
  intro j hj
  rw [cn_same h8] at hj
  rw [hM j (by omega), hf _ (by omega) (by omega)]
  exact h j hj
