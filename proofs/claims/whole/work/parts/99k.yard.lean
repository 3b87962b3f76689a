/-! ===== the reference's reader: what it lays, what waits ===== -/
theorem ite_pair {c : Prop} [Decidable c] (a b : Int32) (N : Mem) : (if c then some (a, N) else some (b, N)) = some (if c then a else b, N) := by
  split <;> rfl
def rk (b : Nat) : Nat := if b = 38 then 2 else if b = 42 then 5 else if b = 43 then 4 else if b = 45 then 4 else if b = 47 then 5 else if b = 60 then 3 else if b = 61 then 3 else if b = 62 then 3 else if b = 124 then 1 else if b = 33 then 6 else 0
def rkI (x : Int32) : Int32 := if x = 38 then 2 else if x = 42 then 5 else if x = 43 then 4 else if x = 45 then 4 else if x = 47 then 5 else if x = 60 then 3 else if x = 61 then 3 else if x = 62 then 3 else if x = 124 then 1 else if x = 33 then 6 else 0
def bv (b : Nat) : Int32 := if b = 256 then -1 else nI b
def dgI (x : Int32) : Int32 := if x < 48 then 0 else if x ≤ 57 then 1 else 0
def nmI (x0 x1 : Int32) : Int32 := if x0 = 0 then (if x1 = 104 then 1 else if x1 = 109 then 2 else if x1 = 115 then 3 else 0) else if x0 = 1 then (if x1 = 110 then 1 else if x1 = 112 then 2 else 0) else if x0 = 2 then (if x1 = 108 then 1 else if x1 = 111 then 2 else 0) else (if x1 = 99 then 1 else 0)
theorem K_rankI (x : Int32) (N : Mem) : mK_rankOf x N = some (rkI x, N) := by
  unfold mK_rankOf
  simp only [ite_pair]
  rfl
theorem K_nameI (x y : Int32) (N : Mem) : mK_nameOf x y N = some (nmI x y, N) := by
  unfold mK_nameOf
  simp only [ite_pair]
  rfl
theorem K_digI (x : Int32) (N : Mem) : mK_isDigit x N = some (dgI x, N) := by
  unfold mK_isDigit
  simp only [ite_pair]
  rfl
theorem bv_all : ∀ b : Fin 257, rkI (bv b.val) = nI (rk b.val) ∧ (bv b.val = 33 ↔ b.val = 33) ∧ (bv b.val = 40 ↔ b.val = 40) ∧ (bv b.val = 41 ↔ b.val = 41) ∧ (bv b.val < 0 ↔ b.val = 256) ∧ dgI (bv b.val) = (if 48 ≤ b.val ∧ b.val ≤ 57 then 1 else 0) := by decide +kernel
theorem nm_all : ∀ u : Fin 4, ∀ b : Fin 257, nmI (nI u.val) (bv b.val) = nI (nmN u.val b.val) := by decide +kernel
theorem rk_all : ∀ b : Fin 257, (isMulB b.val = decide (rk b.val = 5)) ∧ (isAddB b.val = decide (rk b.val = 4)) ∧ (isCmpB b.val = decide (rk b.val = 3)) ∧ (isAndB b.val = decide (rk b.val = 2)) ∧ (isOrB b.val = decide (rk b.val = 1)) ∧ rk b.val ≤ 6 ∧ (rk b.val = 6 → b.val = 33) ∧ (1 ≤ rk b.val → b.val < 256 ∧ b.val ≠ 40 ∧ b.val ≠ 41 ∧ ¬ (48 ≤ b.val ∧ b.val ≤ 57)) := by decide +kernel
theorem nm_dig : ∀ u : Fin 4, ∀ b : Fin 257, nmN u.val b.val ≠ 0 → b.val ≠ 33 ∧ b.val ≠ 40 ∧ b.val < 256 ∧ ¬ (48 ≤ b.val ∧ b.val ≤ 57) := by decide +kernel
theorem rk_bv {b : Nat} (hb : b < 257) : rkI (bv b) = nI (rk b) := (bv_all ⟨b, hb⟩).1
theorem bv_nI {b : Nat} (hb : b < 256) : bv b = nI b := if_neg (by omega)
theorem rk_nI {b : Nat} (hb : b < 256) : rkI (nI b) = nI (rk b) := by
  rw [← bv_nI hb]
  exact rk_bv (by omega)
theorem rk_le {b : Nat} (hb : b < 257) : rk b ≤ 6 := (rk_all ⟨b, hb⟩).2.2.2.2.2.1
def SW (R : Row) : List Nat → Prop
  | [] => True
  | b :: W => R W.length = nI b ∧ SW R W
theorem SW.upd {R : Row} {k : Nat} {v : Int32} : ∀ {W : List Nat}, W.length ≤ k → SW R W → SW (upd R k v) W
  | [], _, _ => trivial
  | a :: r, h, q => by
    have h : r.length + 1 ≤ k := h
    refine ⟨?_, SW.upd (by omega) q.2⟩
    rw [pk_un (by omega)]
    exact q.1
theorem SW.get {R : Row} : ∀ {W : List Nat}, SW R W → ∀ k, k < W.length → ∃ b, b ∈ W ∧ R k = nI b
  | [], _, k, hk => absurd hk (Nat.not_lt_zero _)
  | b :: W, h, k, hk => by
    have hk : k < W.length + 1 := hk
    by_cases e : k = W.length
    · subst e
      exact ⟨b, List.mem_cons_self, h.1⟩
    · obtain ⟨c, h1, h2⟩ := SW.get h.2 k (by omega)
      exact ⟨c, List.mem_cons_of_mem _ h1, h2⟩
theorem SW.ex {R : Row} : ∀ {W : List Nat}, SW R W → ∀ b, b ∈ W → ∃ k, k < W.length ∧ R k = nI b
  | [], _, b, hb => by cases hb
  | c :: W, h, b, hb => by
    rcases List.mem_cons.mp hb with e | e
    · exact ⟨W.length, Nat.lt_succ_self _, by rw [e]; exact h.1⟩
    · obtain ⟨k, h1, h2⟩ := SW.ex h.2 b e
      exact ⟨k, Nat.lt_succ_of_lt h1, h2⟩
def opA (b : Nat) : Int32 := -100 - nI b
def pops : List Nat → List Int32 → List Int32
  | [], a => a
  | d :: D, a => pops D (opA d :: a)
theorem pops_c (d : Nat) (D : List Nat) (a : List Int32) : pops (d :: D) a = pops D (opA d :: a) := rfl
theorem pops_app : ∀ (D E : List Nat) (a : List Int32), pops (D ++ E) a = pops E (pops D a)
  | [], _, _ => rfl
  | d :: D, E, a => pops_app D E (opA d :: a)
theorem pops_len : ∀ (D : List Nat) (a : List Int32), (pops D a).length = a.length + D.length
  | [], _ => rfl
  | d :: D, a => by
    rw [pops_c, pops_len D]
    show a.length + 1 + D.length = a.length + (D.length + 1)
    omega
def Fr (N0 N : Mem) : Prop := ∀ r w i k, ¬ ((r = 40 ∧ (k = 10 ∨ k = 11 ∨ k = 12)) ∨ r = 47 ∨ r = 48) → N r w i k = N0 r w i k
def YS (N0 N : Mem) (a : List Int32) (W : List Nat) (p : Nat) : Prop := Fr N0 N ∧ N 40 0 0 10 = nI a.length ∧ N 40 0 0 11 = nI W.length ∧ N 40 0 0 12 = nI p ∧ SM (N 47 0 0) a ∧ SW (N 48 0 0) W ∧ ∀ b ∈ W, b < 256
def YC (N0 : Mem) (n : Nat) (sg : Nat → Nat) : Prop := N0 41 0 0 7 = nI n ∧ n ≤ 50 ∧ (∀ p, p < n → N0 41 0 0 (1432 + p) = nI (sg p) ∧ sg p < 256) ∧ ∀ p, ¬ p < n → sg p = 256
def lowH (r : Nat) (W : List Nat) : Prop := ∀ b W', W = b :: W' → rk b < r
section Yard
variable {N0 N : Mem} {n : Nat} {sg : Nat → Nat} {a : List Int32} {W : List Nat} {p : Nat}
theorem YC.lt (hC : YC N0 n sg) (p : Nat) : sg p < 257 := by
  by_cases z : p < n
  · have := (hC.2.2.1 p z).2
    omega
  · rw [hC.2.2.2 p z]
    decide
theorem YC.inn (hC : YC N0 n sg) {p : Nat} (h : sg p < 256) : p < n := by
  by_cases z : p < n
  · exact z
  · rw [hC.2.2.2 p z] at h
    exact absurd h (by decide)
theorem YS.lays (h : YS N0 N a W p) (ha : a.length < 50) (v : Int32) : ∃ N', mK_lays v N = some N' ∧ YS N0 N' (v :: a) W p := by
  obtain ⟨h1, h2, h3, h4, h5, h6, h7⟩ := h
  have e : up N 47 0 0 a.length v 40 0 0 10 + 1 = nI (a.length + 1) := by rw [upR (by decide), h2, nI_1]
  refine ⟨up (up N 47 0 0 a.length v) 40 0 0 10 (nI (a.length + 1)), ?_, ?_, up_eq, ?_, ?_, ?_, ?_, h7⟩
  · unfold mK_lays
    rw [h2, ixx_nI ha (by decide)]
    exact congrArg (fun x => some (up (up N 47 0 0 a.length v) 40 0 0 10 x)) e
  · intro r w i k q
    rw [up_ne (by omega), up_ne (by omega)]
    exact h1 r w i k q
  · rw [up_ne (by omega), up_ne (by omega)]
    exact h3
  · rw [up_ne (by omega), up_ne (by omega)]
    exact h4
  · rw [upRr (by decide), up_row]
    exact ⟨pk_us, h5.upd (Nat.le_refl _)⟩
  · rw [upRr (by decide), upRr (by decide)]
    exact h6
def kPush (N : Mem) (k : Nat) (x : Int32) : Mem := up (up (up N 48 0 0 k x) 40 0 0 11 ((up N 48 0 0 k x) 40 0 0 11 + 1)) 40 0 0 12 ((up (up N 48 0 0 k x) 40 0 0 11 ((up N 48 0 0 k x) 40 0 0 11 + 1)) 40 0 0 12 + 1)
theorem YS.push (h : YS N0 N a W p) {b : Nat} (hb : b < 256) : YS N0 (kPush N W.length (bv b)) a (b :: W) (p + 1) := by
  obtain ⟨h1, h2, h3, h4, h5, h6, h7⟩ := h
  have e1 : (up N 48 0 0 W.length (bv b)) 40 0 0 11 + 1 = nI (W.length + 1) := by rw [upR (by decide), h3, nI_1]
  have e2 : (up (up N 48 0 0 W.length (bv b)) 40 0 0 11 (nI (W.length + 1))) 40 0 0 12 + 1 = nI (p + 1) := by rw [up_ne (by omega), upR (by decide), h4, nI_1]
  unfold kPush
  rw [e1, e2]
  refine ⟨?_, ?_, ?_, up_eq, ?_, ?_, ?_⟩
  · intro r w i k q
    rw [up_ne (by omega), up_ne (by omega), up_ne (by omega)]
    exact h1 r w i k q
  · rw [up_ne (by omega), up_ne (by omega), up_ne (by omega)]
    exact h2
  · rw [up_ne (by omega), up_eq]
    rfl
  · rw [upRr (by decide), upRr (by decide), upRr (by decide)]
    exact h5
  · rw [upRr (by decide), upRr (by decide), up_row]
    exact ⟨by rw [pk_us]; exact bv_nI hb, h6.upd (Nat.le_refl _)⟩
  · intro c hc
    rcases List.mem_cons.mp hc with e | e
    · rw [e]
      exact hb
    · exact h7 c e
theorem YS.down {b : Nat} (h : YS N0 N a (b :: W) p) : YS N0 (up N 40 0 0 11 (nI W.length)) a W p := by
  obtain ⟨h1, h2, h3, h4, h5, h6, h7⟩ := h
  refine ⟨?_, ?_, up_eq, ?_, ?_, ?_, ?_⟩
  · intro r w i k q
    rw [up_ne (by omega)]
    exact h1 r w i k q
  · rw [up_ne (by omega)]
    exact h2
  · rw [up_ne (by omega)]
    exact h4
  · rw [upRr (by decide)]
    exact h5
  · rw [upRr (by decide)]
    exact h6.2
  · intro c hc
    exact h7 c (List.mem_cons_of_mem _ hc)
theorem YS.next (h : YS N0 N a W p) : YS N0 (up N 40 0 0 12 (N 40 0 0 12 + 1)) a W (p + 1) := by
  obtain ⟨h1, h2, h3, h4, h5, h6, h7⟩ := h
  refine ⟨?_, ?_, ?_, ?_, ?_, ?_, h7⟩
  · intro r w i k q
    rw [up_ne (by omega)]
    exact h1 r w i k q
  · rw [up_ne (by omega)]
    exact h2
  · rw [up_ne (by omega)]
    exact h3
  · rw [up_eq, h4, nI_1]
  · rw [upRr (by decide)]
    exact h5
  · rw [upRr (by decide)]
    exact h6
theorem K_byte (hC : YC N0 n sg) (h : YS N0 N a W p) : mK_byteAt (N 40 0 0 12) N = some (bv (sg p), N) ∨ 2 ^ 30 ≤ p := by
  by_cases hp : 2 ^ 30 ≤ p
  · exact .inr hp
  refine .inl ?_
  obtain ⟨c1, c2, c3, c4⟩ := hC
  unfold mK_byteAt
  rw [h.2.2.2.1, h.1 41 0 0 7 (by omega), c1]
  by_cases z : p < n
  · have i1 : (1432 : Int32) + nI p = nI (1432 + p) := nI_add 1432 p
    rw [if_pos (nI_lt z (by omega)), i1, ixx_nI (by omega) (by decide), h.1 41 0 0 _ (by omega), (c3 p z).1, bv_nI (c3 p z).2]
  · rw [if_neg (nI_nlt (by omega) (by omega)), c4 p z]
    rfl
theorem K_bt (hC : YC N0 n sg) (h : YS N0 N a W p) (hp : p ≤ n) : mK_byteAt (N 40 0 0 12) N = some (bv (sg p), N) := (K_byte hC h).resolve_right (by have := hC.2.1; omega)
theorem K_settles {r : Nat} (hr : r ≤ 6) (hl : lowH r W) : ∀ (D : List Nat) (N : Mem) (a : List Int32) (m : Nat), YS N0 N a (D ++ W) p → (∀ b ∈ D, r ≤ rk b) → a.length + (D ++ W).length ≤ 50 → D.length < m → ∃ N', mK_settles_0 m (nI r) N = some N' ∧ YS N0 N' (pops D a) W p
  | [], N, a, m, h, hD, hb, hm => by
    obtain ⟨m, rfl⟩ : ∃ j, m = j + 1 := ⟨m - 1, by have : 0 < m := hm; omega⟩
    refine ⟨N, ?_, h⟩
    show mK_settles_0b (mK_settles_0 m) (nI r) N = _
    unfold mK_settles_0b
    cases W with
    | nil =>
      have h3 : N 40 0 0 11 = nI 0 := h.2.2.1
      rw [h3]
      exact if_pos (by decide)
    | cons b W' =>
      have h3 : N 40 0 0 11 = nI (W'.length + 1) := h.2.2.1
      have h6 : N 48 0 0 W'.length = nI b := h.2.2.2.2.2.1.1
      have h7 : b < 256 := h.2.2.2.2.2.2 b (by simp)
      have hb2 : a.length + (W'.length + 1) ≤ 50 := hb
      rw [h3, if_neg (nI_nle (by omega) (by omega)), nI_pred, ixx_nI (by omega) (by decide), h6, K_rankI, rk_nI h7]
      simp only [Option.bind_some]
      rw [if_pos (nI_lt (hl b W' rfl) (by omega))]
  | d :: D, N, a, m, h, hD, hb, hm => by
    have hm : D.length + 1 < m := hm
    obtain ⟨m, rfl⟩ : ∃ j, m = j + 1 := ⟨m - 1, by omega⟩
    have h3 : N 40 0 0 11 = nI ((D ++ W).length + 1) := h.2.2.1
    have h6 : N 48 0 0 (D ++ W).length = nI d := h.2.2.2.2.2.1.1
    have h7 : d < 256 := h.2.2.2.2.2.2 d (by simp)
    have hb2 : a.length + ((D ++ W).length + 1) ≤ 50 := hb
    have hK : YS N0 (up N 40 0 0 11 (nI (D ++ W).length)) a (D ++ W) p := YS.down h
    obtain ⟨N1, e1, k1⟩ := hK.lays (by omega) (-100 - nI d)
    have ed : (-100 - nI d : Int32) = opA d := rfl
    obtain ⟨N2, e2, k2⟩ := K_settles hr hl D N1 ((-100 - nI d) :: a) m k1 (fun b hb => hD b (List.mem_cons_of_mem _ hb)) (by show a.length + 1 + (D ++ W).length ≤ 50; omega) (by omega)
    refine ⟨N2, ?_, by rw [pops_c, ← ed]; exact k2⟩
    show mK_settles_0b (mK_settles_0 m) (nI r) N = _
    unfold mK_settles_0b
    rw [h3, if_neg (nI_nle (by omega) (by omega)), nI_pred, ixx_nI (by omega) (by decide), h6, K_rankI, rk_nI h7]
    simp only [Option.bind_some]
    have hr2 : r ≤ rk d := hD d List.mem_cons_self
    have hk6 := rk_le (b := d) (by omega)
    rw [if_neg (nI_nlt hr2 (by omega)), h3, nI_pred, up_eq, ixx_nI (by omega) (by decide), upR (by decide), h6, e1]
    simp only [Option.bind_some]
    exact e2
theorem hoL {L : Nat} (hL : L ≤ 50) (h : N 40 0 0 11 = nI L) : ∀ (d i m : Nat), i + d = L → d < m → ∃ x : Int32, mK_hasOpen_2 m (nI i) N = some (x, N) ∧ ((x = 1 ∧ ∃ k, k < L ∧ N 48 0 0 k = 40) ∨ (x = 0 ∧ ∀ k, i ≤ k → k < L → ¬ N 48 0 0 k = 40))
  | 0, i, m, hi, hm => by
    obtain ⟨m, rfl⟩ : ∃ j, m = j + 1 := ⟨m - 1, by omega⟩
    refine ⟨0, ?_, .inr ⟨rfl, fun k h1 h2 => by omega⟩⟩
    show mK_hasOpen_2b (mK_hasOpen_2 m) (nI i) N = _
    unfold mK_hasOpen_2b
    rw [h, if_neg (nI_nlt (by omega) (by omega))]
  | d + 1, i, m, hi, hm => by
    obtain ⟨m, rfl⟩ : ∃ j, m = j + 1 := ⟨m - 1, by omega⟩
    obtain ⟨x, e1, e2⟩ := hoL hL h d (i + 1) m (by omega) (by omega)
    by_cases z : N 48 0 0 i = 40
    · refine ⟨1, ?_, .inl ⟨rfl, i, by omega, z⟩⟩
      show mK_hasOpen_2b (mK_hasOpen_2 m) (nI i) N = _
      unfold mK_hasOpen_2b
      rw [h, if_pos (nI_lt (by omega) (by omega)), ixx_nI (by omega) (by decide), if_pos z]
    · refine ⟨x, ?_, e2.imp id fun q => ⟨q.1, fun k h1 h2 => ?_⟩⟩
      · show mK_hasOpen_2b (mK_hasOpen_2 m) (nI i) N = _
        unfold mK_hasOpen_2b
        rw [h, if_pos (nI_lt (by omega) (by omega)), ixx_nI (by omega) (by decide), if_neg z, nI_1]
        exact e1
      · by_cases e : k = i
        · rw [e]
          exact z
        · exact q.2 k (by omega) h2
theorem K_hasOpen (h : YS N0 N a W p) (hW : W.length ≤ 50) : mK_hasOpen N = some (bI (40 ∈ W), N) := by
  obtain ⟨x, e1, e2⟩ := hoL hW h.2.2.1 W.length 0 fuel (by omega) (by unfold fuel; omega)
  have e1 : mK_hasOpen N = some (x, N) := e1
  rw [e1]
  have hx : x = bI (40 ∈ W) := by
    rcases e2 with ⟨rfl, k, k1, k2⟩ | ⟨rfl, k2⟩
    · obtain ⟨b, b1, b2⟩ := h.2.2.2.2.2.1.get k k1
      have b3 := h.2.2.2.2.2.2 b b1
      have : b = 40 := by
        rw [b2] at k2
        exact (nI_eq (b := 40) (by omega) (by decide)).mp k2
      rw [this] at b1
      exact (if_pos b1).symm
    · refine (if_neg fun q => ?_).symm
      obtain ⟨k, q1, q2⟩ := h.2.2.2.2.2.1.ex 40 q
      exact k2 k (by omega) q1 q2
  rw [hx]
def cO : List Nat → Nat
  | [] => 0
  | b :: W => cO W + if b = 33 ∨ b = 40 then 1 else 0
theorem cO_c (b : Nat) (W : List Nat) : cO (b :: W) = cO W + if b = 33 ∨ b = 40 then 1 else 0 := rfl
def cu (R : Row) : Nat → Nat → Nat
  | 0, _ => 0
  | d + 1, i => (if R i = 33 ∨ R i = 40 then 1 else 0) + cu R d (i + 1)
theorem cu_s (R : Row) (d i : Nat) : cu R (d + 1) i = (if R i = 33 ∨ R i = 40 then 1 else 0) + cu R d (i + 1) := rfl
theorem cu_e (R : Row) : ∀ (d i : Nat), cu R (d + 1) i = cu R d i + if R (i + d) = 33 ∨ R (i + d) = 40 then 1 else 0
  | 0, i => by
    rw [cu_s]
    show _ + 0 = 0 + _
    rw [Nat.zero_add]
    rfl
  | d + 1, i => by
    rw [cu_s, cu_e R d (i + 1), cu_s R d i, show i + 1 + d = i + (d + 1) by omega, Nat.add_assoc]
theorem cO_cu {R : Row} : ∀ {W : List Nat}, SW R W → (∀ b ∈ W, b < 256) → cO W = cu R W.length 0
  | [], _, _ => rfl
  | b :: W, h, h2 => by
    have e : (b :: W).length = W.length + 1 := rfl
    have hb := h2 b List.mem_cons_self
    have e33 : (nI b = (33 : Int32)) = (b = 33) := nI_inj (b := 33) (by omega) (by decide)
    have e40 : (nI b = (40 : Int32)) = (b = 40) := nI_inj (b := 40) (by omega) (by decide)
    rw [e, cu_e, cO_c, cO_cu h.2 fun c hc => h2 c (List.mem_cons_of_mem _ hc), Nat.zero_add, h.1]
    simp only [e33, e40]
theorem omL {L : Nat} (hL : L ≤ 50) (h : N 40 0 0 11 = nI L) : ∀ (d i m x : Nat), i + d = L → d < m → mK_openMany_4 m (nI x) (nI i) N = some (nI (x + cu (N 48 0 0) d i), N)
  | 0, i, m, x, hi, hm => by
    obtain ⟨m, rfl⟩ : ∃ j, m = j + 1 := ⟨m - 1, by omega⟩
    show mK_openMany_4b (mK_openMany_4 m) (nI x) (nI i) N = _
    unfold mK_openMany_4b
    rw [h, if_neg (nI_nlt (by omega) (by omega))]
    rfl
  | d + 1, i, m, x, hi, hm => by
    obtain ⟨m, rfl⟩ : ∃ j, m = j + 1 := ⟨m - 1, by omega⟩
    have ih := fun x => omL hL h d (i + 1) m x (by omega) (by omega)
    show mK_openMany_4b (mK_openMany_4 m) (nI x) (nI i) N = _
    unfold mK_openMany_4b
    have e0 : nI x + 0 = nI x := nI_add x 0
    rw [h, if_pos (nI_lt (by omega) (by omega)), ixx_nI (by omega) (by decide), ixx_nI (by omega) (by decide), nI_1, nI_1, e0, cu_s]
    by_cases z1 : N 48 0 0 i = 33
    · rw [if_pos z1, if_pos (Or.inl z1), ih, Nat.add_assoc]
    · by_cases z2 : N 48 0 0 i = 40
      · rw [if_neg z1, if_pos z2, if_pos (Or.inr z2), ih, Nat.add_assoc]
      · rw [if_neg z1, if_neg z2, if_neg (not_or.mpr ⟨z1, z2⟩), ih, Nat.zero_add]
theorem K_openMany (h : YS N0 N a W p) (hW : W.length ≤ 50) : mK_openMany N = some (nI (cO W), N) := by
  have e := omL hW h.2.2.1 W.length 0 fuel 0 (by omega) (by unfold fuel; omega)
  rw [Nat.zero_add, ← cO_cu h.2.2.2.2.2.1 h.2.2.2.2.2.2] at e
  exact e
def tsd : List Nat → Bool
  | [] => false
  | b :: W => if 3 < rk b then tsd W else decide (rk b = 3)
theorem tsd_c (b : Nat) (W : List Nat) : tsd (b :: W) = if 3 < rk b then tsd W else decide (rk b = 3) := rfl
theorem teL {N : Mem} : ∀ (W : List Nat) (m : Nat), SW (N 48 0 0) W → (∀ b ∈ W, b < 256) → W.length ≤ 50 → W.length < m → mK_isTested_7 m (nI W.length - 1) N = some (bI (tsd W = true), N)
  | [], m, _, _, _, hm => by
    obtain ⟨m, rfl⟩ : ∃ j, m = j + 1 := ⟨m - 1, by have : 0 < m := hm; omega⟩
    show mK_isTested_7b (mK_isTested_7 m) (nI 0 - 1) N = _
    unfold mK_isTested_7b
    rw [if_pos (c := nI 0 - 1 < 0) (by decide), if_pos (c := nI 0 - 1 < 0) (by decide)]
    rfl
  | b :: W, m, h, h2, h3, hm => by
    have hm : W.length + 1 < m := hm
    have h3 : W.length + 1 ≤ 50 := h3
    obtain ⟨m, rfl⟩ : ∃ j, m = j + 1 := ⟨m - 1, by omega⟩
    have ih := teL (N := N) W m h.2 (fun c hc => h2 c (List.mem_cons_of_mem _ hc)) (by omega) (by omega)
    have hb := h2 b List.mem_cons_self
    have h6 := rk_le (b := b) (by omega)
    show mK_isTested_7b (mK_isTested_7 m) (nI (W.length + 1) - 1) N = _
    unfold mK_isTested_7b
    have ng : ¬ nI W.length < 0 := nI_pos (by omega)
    have c3 : (nI (rk b) ≤ (3 : Int32)) ↔ rk b ≤ 3 := nI_leI (b := 3) (by omega) (by decide)
    have d3 : (nI (rk b) = (3 : Int32)) ↔ rk b = 3 := nI_eq (b := 3) (by omega) (by decide)
    rw [nI_pred, if_neg ng]
    simp only [if_neg ng, ixx_nI (show W.length < 50 by omega) (show 50 < 2 ^ 31 by decide), h.1, K_rankI, rk_nI hb, Option.bind_some]
    by_cases z : rk b ≤ 3
    · rw [if_pos (c3.mpr z), tsd_c, if_neg (c := 3 < rk b) (by omega)]
      by_cases y : rk b = 3
      · rw [if_pos (d3.mpr y)]
        have : bI (decide (rk b = 3) = true) = 1 := if_pos (decide_eq_true y)
        rw [this]
      · rw [if_neg (fun q => y (d3.mp q))]
        have : bI (decide (rk b = 3) = true) = 0 := if_neg (fun q => y (of_decide_eq_true q))
        rw [this]
    · have et : tsd (b :: W) = tsd W := by rw [tsd_c, if_pos (c := 3 < rk b) (by omega)]
      rw [if_neg (fun q => z (c3.mp q)), et, ← Int32.sub_eq_add_neg]
      exact ih
theorem K_tested (h : YS N0 N a W p) (hW : W.length ≤ 50) : mK_isTested N = some (bI (tsd W = true), N) := by
  have e := teL (N := N) W fuel h.2.2.2.2.2.1 h.2.2.2.2.2.2 hW (by unfold fuel; omega)
  rw [← h.2.2.1] at e
  exact e
end Yard
