/-! ===== the reference reads as the grammar says ===== -/
def GR (N0 : Mem) (n : Nat) (sg : Nat → Nat) (u : Int32) (m : Nat) (x : Int32) (N : Mem) (p : Nat) (Q : List Int32 → Mem → Nat → Prop) : RR → Prop
  | .inl q => GE N0 u m x N q
  | .inr (c, p2) => p < p2 ∧ p2 ≤ n ∧ ((dg (sg p2) ∧ GE N0 u m x N p2) ∨ ∃ m' N', mK_reads_17 m u x N = mK_reads_17 m' u 0 N' ∧ 60 ≤ m' + p2 ∧ Q c N' p2)
def QL (N0 : Mem) (sg : Nat → Nat) (r : Nat) (W : List Nat) (a : List Int32) : List Int32 → Mem → Nat → Prop := fun c N' p2 => ∃ (D : List Nat) (a' : List Int32), (∀ b ∈ D, r ≤ rk b ∧ rk b ≤ 5) ∧ pops D a' = c.reverse ++ a ∧ YS N0 N' a' (D ++ W) p2 ∧ a'.length + (D ++ W).length ≤ p2 ∧ YStp r (sg p2) (D ++ W)
def GL (N0 : Mem) (n : Nat) (sg : Nat → Nat) (use o r : Nat) (P : Nat → RR) : Prop := ∀ (W : List Nat) (m : Nat) (N : Mem) (a : List Int32) (p : Nat), lowH r W → cO W + o = 5 → YS N0 N a W p → a.length < 50 → a.length + W.length ≤ p → p ≤ n → 60 ≤ m + p → GR N0 n sg (nI use) m 1 N p (QL N0 sg r W a) (P p)
def GS (N0 : Mem) (n : Nat) (sg : Nat → Nat) (use o : Nat) (P : Nat → RR) : Prop := ∀ (D W : List Nat) (m : Nat) (N : Mem) (a : List Int32) (p : Nat), (∀ b ∈ D, b = 33) → lowH 6 W → cO (D ++ W) + o = 5 → YS N0 N a (D ++ W) p → a.length < 50 → a.length + (D ++ W).length ≤ p → p ≤ n → 60 ≤ m + p → GR N0 n sg (nI use) m 1 N p (fun c N' p2 => YS N0 N' (pops D (c.reverse ++ a)) W p2 ∧ (c.reverse ++ a).length + (D ++ W).length ≤ p2) (P p)
section Gram
variable {N0 : Mem} {n : Nat} {sg : Nat → Nat} {use o : Nat}
theorem GR.mono {u : Int32} {m : Nat} {x : Int32} {N : Mem} {p : Nat} {Q Q' : List Int32 → Mem → Nat → Prop} {y : RR} (h : GR N0 n sg u m x N p Q y) (hQ : ∀ c N' p2, Q c N' p2 → Q' c N' p2) : GR N0 n sg u m x N p Q' y := by
  cases y with
  | inl q => exact h
  | inr y =>
    obtain ⟨c, p2⟩ := y
    obtain ⟨h1, h2, h3⟩ := h
    refine ⟨h1, h2, h3.imp id fun q => ?_⟩
    obtain ⟨m', N', e, e2, q⟩ := q
    exact ⟨m', N', e, e2, hQ _ _ _ q⟩
theorem GE.tr {u : Int32} {m m' : Nat} {x x' : Int32} {N N' : Mem} {q : Nat} (e : mK_reads_17 m u x N = mK_reads_17 m' u x' N') (h : GE N0 u m' x' N' q) : GE N0 u m x N q := by
  obtain ⟨N1, f1, f2, f3⟩ := h
  exact ⟨N1, e.trans f1, f2, f3⟩
theorem GR.tr {u : Int32} {m m' : Nat} {x x' : Int32} {N N' : Mem} {p : Nat} {Q : List Int32 → Mem → Nat → Prop} {y : RR} (e : mK_reads_17 m u x N = mK_reads_17 m' u x' N') (h : GR N0 n sg u m' x' N' p Q y) : GR N0 n sg u m x N p Q y := by
  cases y with
  | inl q => exact GE.tr e h
  | inr y =>
    obtain ⟨c, p2⟩ := y
    obtain ⟨h1, h2, h3⟩ := h
    refine ⟨h1, h2, h3.imp (fun q => ⟨q.1, GE.tr e q.2⟩) fun q => ?_⟩
    obtain ⟨m', N', e1, e2, q⟩ := q
    exact ⟨m', N', e.trans e1, e2, q⟩
theorem GS.lvl {P : Nat → RR} (h : GS N0 n sg use o P) : GL N0 n sg use o 6 P := by
  intro W m N a p hl hc hK ha hb hp hm
  exact GR.mono (h [] W m N a p (fun b hb => by cases hb) hl hc hK ha hb hp hm) fun c N' p2 q => ⟨[], c.reverse ++ a, (fun b hb => by cases hb), rfl, q.1, q.2, fun h1 h2 => by omega⟩
theorem dg_rk {b : Nat} (hb : b < 257) (h : dg b) : rk b = 0 := by
  rcases Nat.eq_zero_or_pos (rk b) with z | z
  · exact z
  · exact absurd h ((rk_all ⟨b, hb⟩).2.2.2.2.2.2.2 z).2.2.2
theorem rk_in (hC : YC N0 n sg) {p : Nat} (h : 1 ≤ rk (sg p)) : p < n ∧ sg p < 256 ∧ sg p ≠ 40 ∧ sg p ≠ 41 := by
  have q := (rk_all ⟨sg p, hC.lt p⟩).2.2.2.2.2.2.2 h
  exact ⟨hC.inn q.1, q.1, q.2.1, q.2.2.1⟩
theorem pChain_s (op : Nat → Bool) (sub : Nat → RR) (k : Nat) (c : List Int32) (p : Nat) : pChain sg op sub (k + 1) c p = if op (sg p) = true then (match sub (p + 1) with
    | .inl q => .inl q
    | .inr (c2, p2) => pChain sg op sub k (c ++ (c2 ++ [opA (sg p)])) p2) else .inr (c, p) := rfl
theorem pChain_stop (op : Nat → Bool) (sub : Nat → RR) {p : Nat} (h : op (sg p) = false) : ∀ (k : Nat) (c : List Int32), pChain sg op sub k c p = .inr (c, p)
  | 0, _ => rfl
  | k + 1, c => by
    rw [pChain_s, if_neg (by rw [h]; decide)]
theorem cO_op {b : Nat} {W : List Nat} (h1 : 1 ≤ rk b) (h5 : rk b ≤ 5) (h40 : b ≠ 40) : cO (b :: W) = cO W := by
  rw [cO_c, if_neg (c := b = 33 ∨ b = 40) (not_or.mpr ⟨fun q => by rw [q] at h5; exact absurd h5 (by decide), h40⟩), Nat.add_zero]
theorem rev_op (c c2 a : List Int32) (x : Int32) : x :: (c2.reverse ++ (c.reverse ++ a)) = (c ++ (c2 ++ [x])).reverse ++ a := by
  simp
theorem chain_ok (hC : YC N0 n sg) {r : Nat} (hr : 1 ≤ r) (hr5 : r ≤ 5) (hr3 : r ≠ 3) {op : Nat → Bool} (hop : ∀ b, b < 257 → op b = decide (rk b = r)) {P : Nat → RR} (hP : GL N0 n sg use o (r + 1) P) {W : List Nat} {a : List Int32} {p0 : Nat} (hl : lowH r W) (hc : cO W + o = 5) : ∀ (k : Nat) (c : List Int32) (p1 m : Nat) (N : Mem) (D : List Nat) (a' : List Int32), (∀ b ∈ D, r ≤ rk b ∧ rk b ≤ 5) → pops D a' = c.reverse ++ a → YS N0 N a' (D ++ W) p1 → a'.length + (D ++ W).length ≤ p1 → YStp (r + 1) (sg p1) (D ++ W) → p0 < p1 → p1 ≤ n → 60 ≤ m + p1 → n < p1 + k → GR N0 n sg (nI use) m 0 N p0 (QL N0 sg r W a) (pChain sg op P k c p1) := by
  have n50 := hC.2.1
  intro k
  induction k with
  | zero =>
    intro c p1 m N D a' hD hpop hK hb hS h0 h1 hm hn
    omega
  | succ k ih =>
    intro c p1 m N D a' hD hpop hK hb hS h0 h1 hm hn
    rw [pChain_s]
    by_cases z : rk (sg p1) = r
    · rw [if_pos (by rw [hop _ (hC.lt p1)]; exact decide_eq_true z)]
      obtain ⟨i1, i2, i3, i4⟩ := rk_in hC (p := p1) (by omega)
      obtain ⟨m, rfl⟩ : ∃ j, m = j + 1 := ⟨m - 1, by omega⟩
      obtain ⟨N1, e1, k1⟩ := K_op hC hK z hr hr5 i1 (fun b hb => (hD b hb).1) hl (fun q => absurd q hr3) hb m (nI use)
      have hlen : (c.reverse ++ a).length + W.length ≤ p1 := by
        rw [← hpop, pops_len]
        rw [List.length_append] at hb
        omega
      rw [hpop] at k1
      have g := hP (sg p1 :: W) m N1 (c.reverse ++ a) (p1 + 1) (by intro b W' e; cases e; omega) (by rw [cO_op (by omega) (by omega) i3]; exact hc) k1 (by omega) (by show _ + (W.length + 1) ≤ p1 + 1; omega) (by omega) (by omega)
      cases hx : P (p1 + 1) with
      | inl q =>
        rw [hx] at g
        exact GE.tr e1 g
      | inr y =>
        obtain ⟨c2, p2⟩ := y
        rw [hx] at g
        obtain ⟨g1, g2, g3⟩ := g
        show GR N0 n sg (nI use) (m + 1) 0 N p0 (QL N0 sg r W a) (pChain sg op P k (c ++ (c2 ++ [opA (sg p1)])) p2)
        rcases g3 with ⟨d1, f⟩ | ⟨m', N', f1, f2, D3, a3, q1, q2, q3, q4, q5⟩
        · rw [pChain_stop op P (by rw [hop _ (hC.lt p2)]; exact decide_eq_false (by rw [dg_rk (hC.lt p2) d1]; omega))]
          exact ⟨by omega, g2, .inl ⟨d1, GE.tr e1 f⟩⟩
        · refine GR.tr (e1.trans f1) (ih _ p2 m' N' (D3 ++ [sg p1]) a3 ?_ ?_ ?_ ?_ ?_ (by omega) g2 f2 (by omega))
          · intro b hb
            rcases List.mem_append.mp hb with q | q
            · have := q1 b q
              omega
            · rw [List.mem_singleton.mp q]
              omega
          · rw [pops_app, q2]
            exact rev_op c c2 a _
          · rw [List.append_assoc]
            exact q3
          · rw [List.append_assoc]
            exact q4
          · rw [List.append_assoc]
            exact q5
    · rw [if_neg (by rw [hop _ (hC.lt p1)]; exact fun q => z (of_decide_eq_true q))]
      exact ⟨h0, h1, .inr ⟨m, N, rfl, hm, D, a', hD, hpop, hK, hb, fun t1 t2 => hS (by omega) t2⟩⟩
theorem lvl_ok (hC : YC N0 n sg) {r : Nat} (hr : 1 ≤ r) (hr5 : r ≤ 5) (hr3 : r ≠ 3) {op : Nat → Bool} (hop : ∀ b, b < 257 → op b = decide (rk b = r)) {P : Nat → RR} (hP : GL N0 n sg use o (r + 1) P) : GL N0 n sg use o r (pLvl sg op P) := by
  have n50 := hC.2.1
  intro W m N a p hl hc hK ha hb hp hm
  have g := hP W m N a p (fun b W' e => Nat.lt_succ_of_lt (hl b W' e)) hc hK ha hb hp hm
  unfold pLvl
  cases hx : P p with
  | inl q =>
    rw [hx] at g
    exact g
  | inr y =>
    obtain ⟨c, p1⟩ := y
    rw [hx] at g
    obtain ⟨g1, g2, g3⟩ := g
    show GR N0 n sg (nI use) m 1 N p (QL N0 sg r W a) (pChain sg op P 50 c p1)
    rcases g3 with ⟨d1, f⟩ | ⟨m', N', f1, f2, D, a', q1, q2, q3, q4, q5⟩
    · rw [pChain_stop op P (by rw [hop _ (hC.lt p1)]; exact decide_eq_false (by rw [dg_rk (hC.lt p1) d1]; omega))]
      exact ⟨g1, g2, .inl ⟨d1, f⟩⟩
    · exact GR.tr f1 (chain_ok hC hr hr5 hr3 hop hP hl hc 50 c p1 m' N' D a' (fun b hb => by have := q1 b hb; omega) q2 q3 q4 q5 g1 g2 f2 (by omega))
theorem tsd_low : ∀ {D W : List Nat}, (∀ b ∈ D, 4 ≤ rk b ∧ rk b ≤ 5) → lowH 3 W → tsd (D ++ W) = false
  | [], [], _, _ => rfl
  | [], b :: W, _, h => by
    have := h b W rfl
    show tsd (b :: W) = false
    rw [tsd_c, if_neg (c := 3 < rk b) (by omega)]
    exact decide_eq_false (by omega)
  | d :: D, W, h, h2 => by
    have := h d List.mem_cons_self
    show tsd (d :: (D ++ W)) = false
    rw [tsd_c, if_pos (c := 3 < rk d) (by omega)]
    exact tsd_low (fun b hb => h b (List.mem_cons_of_mem _ hb)) h2
theorem tsd_has : ∀ {D : List Nat} {b : Nat} {W : List Nat}, (∀ b ∈ D, 4 ≤ rk b ∧ rk b ≤ 5) → rk b = 3 → tsd (D ++ b :: W) = true
  | [], b, W, _, h => by
    show tsd (b :: W) = true
    rw [tsd_c, if_neg (c := 3 < rk b) (by omega)]
    exact decide_eq_true h
  | d :: D, b, W, h, h2 => by
    have := h d List.mem_cons_self
    show tsd (d :: (D ++ b :: W)) = true
    rw [tsd_c, if_pos (c := 3 < rk d) (by omega)]
    exact tsd_has (fun b hb => h b (List.mem_cons_of_mem _ hb)) h2
theorem pCmp_e (sub : Nat → RR) (p : Nat) : pCmp sg sub p = match sub p with
  | .inl q => .inl q
  | .inr (c, p1) => if isCmpB (sg p1) = true then (match sub (p1 + 1) with
    | .inl q => .inl q
    | .inr (c2, p2) => .inr (c ++ (c2 ++ [opA (sg p1)]), p2)) else .inr (c, p1) := rfl
theorem cmp_ok (hC : YC N0 n sg) {P : Nat → RR} (hP : GL N0 n sg use o 4 P) : GL N0 n sg use o 3 (pCmp sg P) := by
  have n50 := hC.2.1
  intro W m N a p hl hc hK ha hb hp hm
  have g := hP W m N a p (fun b W' e => Nat.lt_succ_of_lt (hl b W' e)) hc hK ha hb hp hm
  rw [pCmp_e]
  cases hx : P p with
  | inl q =>
    rw [hx] at g
    exact g
  | inr y =>
    obtain ⟨c, p1⟩ := y
    rw [hx] at g
    obtain ⟨g1, g2, g3⟩ := g
    have hop : isCmpB (sg p1) = decide (rk (sg p1) = 3) := (rk_all ⟨sg p1, hC.lt p1⟩).2.2.1
    show GR N0 n sg (nI use) m 1 N p (QL N0 sg 3 W a) (if isCmpB (sg p1) = true then (match P (p1 + 1) with
    | .inl q => .inl q
    | .inr (c2, p2) => .inr (c ++ (c2 ++ [opA (sg p1)]), p2)) else .inr (c, p1))
    rcases g3 with ⟨d1, f⟩ | ⟨m', N', f1, f2, D, a', q1, q2, q3, q4, q5⟩
    · rw [if_neg (by rw [hop]; exact fun q => by have := of_decide_eq_true q; rw [dg_rk (hC.lt p1) d1] at this; omega)]
      exact ⟨g1, g2, .inl ⟨d1, f⟩⟩
    by_cases z : rk (sg p1) = 3
    · rw [if_pos (by rw [hop]; exact decide_eq_true z)]
      obtain ⟨i1, i2, i3, i4⟩ := rk_in hC (p := p1) (by omega)
      obtain ⟨m', rfl⟩ : ∃ j, m' = j + 1 := ⟨m' - 1, by omega⟩
      obtain ⟨N1, e1, k1⟩ := K_op hC q3 z (by omega) (by omega) i1 (fun b hb => by have := q1 b hb; omega) hl (fun _ => tsd_low q1 hl) q4 m' (nI use)
      have hlen : (c.reverse ++ a).length + W.length ≤ p1 := by
        rw [← q2, pops_len]
        rw [List.length_append] at q4
        omega
      rw [q2] at k1
      have g := hP (sg p1 :: W) m' N1 (c.reverse ++ a) (p1 + 1) (by intro b W' e; cases e; omega) (by rw [cO_op (by omega) (by omega) i3]; exact hc) k1 (by omega) (by show _ + (W.length + 1) ≤ p1 + 1; omega) (by omega) (by omega)
      cases hx2 : P (p1 + 1) with
      | inl q =>
        rw [hx2] at g
        exact GE.tr (f1.trans e1) g
      | inr y =>
        obtain ⟨c2, p2⟩ := y
        rw [hx2] at g
        obtain ⟨g1', g2', g3'⟩ := g
        refine ⟨by omega, g2', ?_⟩
        rcases g3' with ⟨d1, f⟩ | ⟨m'', N'', f1', f2', D3, a3, q1', q2', q3', q4', q5'⟩
        · exact .inl ⟨d1, GE.tr (f1.trans e1) f⟩
        · refine .inr ⟨m'', N'', f1.trans (e1.trans f1'), f2', D3 ++ [sg p1], a3, ?_, ?_, ?_, ?_, ?_⟩
          · intro b hb
            rcases List.mem_append.mp hb with q | q
            · have := q1' b q
              omega
            · rw [List.mem_singleton.mp q]
              omega
          · rw [pops_app, q2']
            exact rev_op c c2 a _
          · rw [List.append_assoc]
            exact q3'
          · rw [List.append_assoc]
            exact q4'
          · rw [List.append_assoc]
            intro t1 t2
            by_cases y : rk (sg p2) = 3
            · exact ⟨y, tsd_has q1' z⟩
            · exact q5' (by omega) t2
    · rw [if_neg (by rw [hop]; exact fun q => z (of_decide_eq_true q))]
      exact ⟨g1, g2, .inr ⟨m', N', f1, f2, D, a', fun b hb => by have := q1 b hb; omega, q2, q3, q4, fun t1 t2 => q5 (by omega) t2⟩⟩
theorem or_gl (hC : YC N0 n sg) {P : Nat → RR} (h : GS N0 n sg use o P) : GL N0 n sg use o 1 (pOr sg P) := by
  have h5 : GL N0 n sg use o 5 (pMul sg P) := lvl_ok hC (r := 5) (by decide) (by decide) (by decide) (fun b hb => (rk_all ⟨b, hb⟩).1) h.lvl
  have h4 : GL N0 n sg use o 4 (pAdd sg P) := lvl_ok hC (r := 4) (by decide) (by decide) (by decide) (fun b hb => (rk_all ⟨b, hb⟩).2.1) h5
  have h3 : GL N0 n sg use o 3 (pRel sg P) := cmp_ok hC h4
  have h2 : GL N0 n sg use o 2 (pAnd sg P) := lvl_ok hC (r := 2) (by decide) (by decide) (by decide) (fun b hb => (rk_all ⟨b, hb⟩).2.2.2.1) h3
  exact lvl_ok hC (r := 1) (by decide) (by decide) (by decide) (fun b hb => (rk_all ⟨b, hb⟩).2.2.2.2.1) h2
theorem pNum_ge : ∀ (k v p : Nat), p ≤ (pNum sg k v p).2
  | 0, _, _ => Nat.le_refl _
  | k + 1, v, p => by
    rw [pNum_s]
    split
    · have := pNum_ge k (v * 10 + sg p - 48) (p + 1)
      omega
    · exact Nat.le_refl _
theorem o33 : opA 33 = -133 := by decide
theorem one_gs (hC : YC N0 n sg) (hu : use < 4) {inn : Option (Nat → RR)} (hi : (inn = none ∧ o = 0) ∨ ∃ g o', inn = some g ∧ o = o' + 1 ∧ GS N0 n sg use o' g ∧ GL N0 n sg use o' 1 (pOr sg g)) : GS N0 n sg use o (pOne sg use inn) := by
  have n50 := hC.2.1
  intro D W m N a p hD hl hc hK ha hb hp hm
  obtain ⟨m, rfl⟩ : ∃ j, m = j + 1 := ⟨m - 1, by omega⟩
  have step : mK_reads_17 (m + 1) (nI use) 1 N = (mK_readsOne (nI use) N).bind fun q9 => if q9.1 = 0 then some (0, q9.2) else if q9.1 = 2 then mK_reads_17 m (nI use) 1 q9.2 else (mK_settles 6 q9.2).bind fun q10 => mK_reads_17 m (nI use) 0 q10 := by
    show mK_reads_17b (mK_reads_17 m) (mK_reads_136 (mK_reads_17 m)) (nI use) 1 N = _
    unfold mK_reads_17b
    rw [K_bt hC hK hp]
    simp only [Option.bind_some]
    rw [if_neg (c := (1 : Int32) = 0) (by decide)]
  have fin : ∀ (v : Int32) (N1 : Mem) (p2 : Nat), mK_readsOne (nI use) N = some (1, N1) → YS N0 N1 (v :: a) (D ++ W) p2 → p < p2 → p2 ≤ n → ∃ N', mK_reads_17 (m + 1) (nI use) 1 N = mK_reads_17 m (nI use) 0 N' ∧ YS N0 N' (pops D (v :: a)) W p2 := by
    intro v N1 p2 e k h1 h2
    obtain ⟨N2, e2, k2⟩ := K_settles (r := 6) (by omega) hl D N1 (v :: a) fuel k (fun b hb => by rw [hD b hb]; decide) (by show a.length + 1 + _ ≤ 50; omega) (by rw [List.length_append] at hb; unfold fuel; omega)
    have e2 : mK_settles 6 N1 = some N2 := e2
    refine ⟨N2, ?_, k2⟩
    rw [step, e]
    simp only [Option.bind_some]
    rw [if_neg (c := (1 : Int32) = 0) (by decide), if_neg (c := (1 : Int32) = 2) (by decide), e2]
    rfl
  have len1 : ∀ v : Int32, ([v].reverse ++ a).length = a.length + 1 := fun v => by simp [Nat.add_comm]
  have hlt := hC.lt p
  unfold pOne
  by_cases zd : 48 ≤ sg p ∧ sg p ≤ 57
  · rw [if_pos zd]
    have hnm : nmN use (sg p) = 0 := by
      rcases Nat.eq_zero_or_pos (nmN use (sg p)) with z | z
      · exact z
      · exact absurd zd (nm_dig ⟨use, hu⟩ ⟨sg p, hlt⟩ (by show nmN use (sg p) ≠ 0; omega)).2.2.2
    obtain ⟨x, N1, e, k1, k2, k3, k4⟩ := R_num hC hK ha hp hu (by omega) (by omega) hnm
    have hgt : p < (pNum sg 4 0 p).2 := by
      rw [pNum_s, if_pos zd]
      exact pNum_ge 3 _ (p + 1)
    generalize (pNum sg 4 0 p).1 = v at *
    generalize (pNum sg 4 0 p).2 = p2 at *
    rcases k4 with ⟨rfl, k5, k6⟩ | ⟨rfl, k5⟩
    · obtain ⟨N2, f1, f2⟩ := fin _ N1 _ e k1 hgt k3
      exact ⟨hgt, k3, .inr ⟨m, N2, f1, by omega, f2, by rw [len1]; omega⟩⟩
    · have k5 : dg (sg p2) := k5.resolve_right (by omega)
      exact ⟨hgt, k3, .inl ⟨k5, N1, by rw [step, e]; rfl, k1.1, k1.2.2.2.1⟩⟩
  rw [if_neg zd]
  by_cases z33 : sg p = 33
  · rw [if_pos z33]
    have hpn : p < n := hC.inn (by omega)
    have hO := R_open hC hK hp (by omega) (.inl z33) (nI use)
    rcases hi with ⟨rfl, rfl⟩ | ⟨g, o', rfl, rfl, hg, hG⟩
    · rw [if_pos (c := cO (D ++ W) = 5) (by omega)] at hO
      exact ⟨N, by rw [step, hO]; rfl, hK.1, hK.2.2.2.1⟩
    · rw [if_neg (c := cO (D ++ W) = 5) (by omega)] at hO
      have e1 : mK_reads_17 (m + 1) (nI use) 1 N = mK_reads_17 m (nI use) 1 (kPush N (D ++ W).length (bv (sg p))) := by
        rw [step, hO]
        rfl
      have k1 : YS N0 (kPush N (D ++ W).length (bv (sg p))) a ((sg p :: D) ++ W) (p + 1) := hK.push (b := sg p) (by omega)
      have hcO : cO ((sg p :: D) ++ W) + o' = 5 := by
        show cO (sg p :: (D ++ W)) + o' = 5
        rw [cO_c, if_pos (Or.inl z33)]
        omega
      have G := hg (sg p :: D) W m _ a (p + 1) (fun b hb => (List.mem_cons.mp hb).elim (fun q => q.trans z33) (hD b)) hl hcO k1 ha (by show a.length + ((D ++ W).length + 1) ≤ p + 1; omega) (by omega) (by omega)
      show GR N0 n sg (nI use) (m + 1) 1 N p _ (match g (p + 1) with
        | .inl q => .inl q
        | .inr (c, p2) => .inr (c ++ [-133], p2))
      cases hx : g (p + 1) with
      | inl q =>
        rw [hx] at G
        exact GE.tr e1 G
      | inr y =>
        obtain ⟨c, p2⟩ := y
        rw [hx] at G
        obtain ⟨g1, g2, g3⟩ := G
        refine ⟨by omega, g2, ?_⟩
        rcases g3 with ⟨d1, f⟩ | ⟨m', N', f1, f2, f3, f4⟩
        · exact .inl ⟨d1, GE.tr e1 f⟩
        · refine .inr ⟨m', N', e1.trans f1, f2, ?_, ?_⟩
          · have e : pops (sg p :: D) (c.reverse ++ a) = pops D ((c ++ [-133]).reverse ++ a) := by
              rw [pops_c, z33, o33]
              simp
            rw [← e]
            exact f3
          · have e : ((c ++ [(-133 : Int32)]).reverse ++ a).length = (c.reverse ++ a).length + 1 := by simp
            have f4 : (c.reverse ++ a).length + ((D ++ W).length + 1) ≤ p2 := f4
            rw [e]
            omega
  rw [if_neg z33]
  by_cases z40 : sg p = 40
  · rw [if_pos z40]
    have hpn : p < n := hC.inn (by omega)
    have hO := R_open hC hK hp (by omega) (.inr z40) (nI use)
    rcases hi with ⟨rfl, rfl⟩ | ⟨g, o', rfl, rfl, hg, hG⟩
    · rw [if_pos (c := cO (D ++ W) = 5) (by omega)] at hO
      exact ⟨N, by rw [step, hO]; rfl, hK.1, hK.2.2.2.1⟩
    · rw [if_neg (c := cO (D ++ W) = 5) (by omega)] at hO
      have e1 : mK_reads_17 (m + 1) (nI use) 1 N = mK_reads_17 m (nI use) 1 (kPush N (D ++ W).length (bv (sg p))) := by
        rw [step, hO]
        rfl
      have k1 : YS N0 (kPush N (D ++ W).length (bv (sg p))) a (sg p :: (D ++ W)) (p + 1) := hK.push (b := sg p) (by omega)
      have r40 : rk 40 < 1 := by decide
      rw [z40] at k1
      have G := hG (40 :: (D ++ W)) m _ a (p + 1) (by intro b W' e; cases e; exact r40) (by rw [cO_c, if_pos (Or.inr rfl)]; omega) k1 ha (by show a.length + ((D ++ W).length + 1) ≤ p + 1; omega) (by omega) (by omega)
      show GR N0 n sg (nI use) (m + 1) 1 N p _ (match pOr sg g (p + 1) with
        | .inl q => .inl q
        | .inr (c, p2) => if sg p2 = 41 then .inr (c, p2 + 1) else .inl p2)
      rw [z40] at e1
      cases hx : pOr sg g (p + 1) with
      | inl q =>
        rw [hx] at G
        exact GE.tr e1 G
      | inr y =>
        obtain ⟨c, p2⟩ := y
        rw [hx] at G
        obtain ⟨g1, g2, g3⟩ := G
        show GR N0 n sg (nI use) (m + 1) 1 N p _ (if sg p2 = 41 then .inr (c, p2 + 1) else .inl p2)
        rcases g3 with ⟨d1, f⟩ | ⟨m', N', f1, f2, D3, a3, q1, q2, q3, q4, q5⟩
        · rw [if_neg (c := sg p2 = 41) (by have := d1.1; omega)]
          exact GE.tr e1 f
        · obtain ⟨m', rfl⟩ : ∃ j, m' = j + 1 := ⟨m' - 1, by omega⟩
          by_cases zc : sg p2 = 41
          · rw [if_pos zc]
            have hp2 : p2 < n := hC.inn (by omega)
            obtain ⟨N4, e4, k4⟩ := K_close hC q3 zc (fun b hb => by have := q1 b hb; omega) hD hl q4 m' (nI use)
            rw [q2] at k4
            have hlen : (c.reverse ++ a).length + (D ++ W).length ≤ p2 := by
              have q4 : a3.length + (D3 ++ 40 :: (D ++ W)).length ≤ p2 := q4
              have e2 : (D3 ++ 40 :: (D ++ W)).length = D3.length + ((D ++ W).length + 1) := List.length_append
              rw [← q2, pops_len]
              omega
            exact ⟨by omega, by omega, .inr ⟨m', N4, e1.trans (f1.trans e4), by omega, k4, by omega⟩⟩
          · rw [if_neg zc]
            exact GE.tr (e1.trans f1) (K_stop hC q3 g2 (by omega) (fun q => absurd q zc) (fun _ => by simp) q5 m' (nI use))
  rw [if_neg z40]
  by_cases zn : nmN use (sg p) = 0
  · rw [if_pos zn]
    have eN : pNum sg 4 0 p = (0, p) := by rw [pNum_s, if_neg zd]
    obtain ⟨x, N1, e, k1, k2, k3, k4⟩ := R_num hC hK ha hp hu z33 z40 zn
    rw [eN] at k1 k2 k3 k4
    rcases k4 with ⟨rfl, k5, k6⟩ | ⟨rfl, k5⟩
    · exact absurd k5 (Nat.lt_irrefl _)
    · exact ⟨N1, by rw [step, e]; rfl, k1.1, k1.2.2.2.1⟩
  · rw [if_neg zn]
    have hpn : p < n := hC.inn (nm_dig ⟨use, hu⟩ ⟨sg p, hlt⟩ zn).2.2.1
    obtain ⟨N1, e, k1⟩ := R_name hC hK ha hu zn
    obtain ⟨N2, f1, f2⟩ := fin _ N1 _ e k1 (by omega) (by omega)
    exact ⟨by omega, by omega, .inr ⟨m, N2, f1, by omega, f2, by rw [len1]; omega⟩⟩
theorem sing_gs (hC : YC N0 n sg) (hu : use < 4) : ∀ o, GS N0 n sg use o (pSing sg use o)
  | 0 => one_gs hC hu (.inl ⟨rfl, rfl⟩)
  | o + 1 => one_gs hC hu (.inr ⟨pSing sg use o, o, rfl, rfl, sing_gs hC hu o, or_gl hC (sing_gs hC hu o)⟩)
theorem pText_l {q : Nat} (h : pOr sg (pSing sg use 5) 0 = .inl q) : pText sg n use = .inl q := by
  unfold pText
  rw [h]
theorem pText_r {c : List Int32} {p : Nat} (h : pOr sg (pSing sg use 5) 0 = .inr (c, p)) : pText sg n use = if p < n then .inl p else .inr (c, p) := by
  unfold pText
  rw [h]
theorem K_reads_ok (hC : YC N0 n sg) (hu : use < 4) : (∃ q, pText sg n use = .inl q ∧ ∃ N', mK_reads (nI use) N0 = some (0, N') ∧ Fr N0 N' ∧ N' 40 0 0 12 = nI q) ∨ ∃ c p, pText sg n use = .inr (c, p) ∧ c.length ≤ 50 ∧ ∃ N', mK_reads (nI use) N0 = some (1, N') ∧ YS N0 N' c.reverse [] p := by
  have n50 := hC.2.1
  have k0 : YS N0 (up (up (up N0 40 0 0 10 0) 40 0 0 11 0) 40 0 0 12 0) [] [] 0 := by
    refine ⟨?_, ?_, ?_, up_eq, trivial, trivial, fun b hb => by cases hb⟩
    · intro r w i k q
      rw [up_ne (by omega), up_ne (by omega), up_ne (by omega)]
    · rw [up_ne (by omega), up_ne (by omega), up_eq]
      rfl
    · rw [up_ne (by omega), up_eq]
      rfl
  have g := or_gl hC (sing_gs hC hu 5) [] fuel _ [] 0 (by intro b W' e; cases e) rfl k0 (by decide) (by decide) (by omega) (by decide)
  have e0 : mK_reads (nI use) N0 = mK_reads_17 fuel (nI use) 1 (up (up (up N0 40 0 0 10 0) 40 0 0 11 0) 40 0 0 12 0) := rfl
  rw [e0]
  cases hx : pOr sg (pSing sg use 5) 0 with
  | inl q =>
    rw [hx] at g
    exact .inl ⟨q, pText_l hx, g⟩
  | inr y =>
    obtain ⟨c, p2⟩ := y
    rw [hx] at g
    obtain ⟨g1, g2, g3⟩ := g
    rw [pText_r hx]
    rcases g3 with ⟨d1, f⟩ | ⟨m', N', f1, f2, D, a', q1, q2, q3, q4, q5⟩
    · have hp2 : p2 < n := hC.inn (by have := d1.2; omega)
      rw [if_pos hp2]
      exact .inl ⟨p2, rfl, f⟩
    · rw [List.append_nil] at q3 q4 q5
      rw [List.append_nil] at q2
      obtain ⟨m', rfl⟩ : ∃ j, m' = j + 1 := ⟨m' - 1, by omega⟩
      have no : ¬ 40 ∈ D := fun q => by have := (q1 40 q).1; exact absurd this (by decide)
      by_cases z : p2 < n
      · rw [if_pos z]
        exact .inl ⟨p2, rfl, GE.tr f1 (K_stop hC q3 g2 (by omega) (fun _ => no) (fun q => by have := (hC.2.2.1 p2 z).2; omega) q5 m' (nI use))⟩
      · rw [if_neg z]
        obtain ⟨N4, e4, k4⟩ := K_end hC q3 g2 (hC.2.2.2 p2 z) (fun b hb => (q1 b hb).1) (by omega) m' (nI use)
        rw [q2] at k4
        refine .inr ⟨c, p2, rfl, ?_, N4, f1.trans e4, k4⟩
        have : (pops D a').length = c.length := by rw [q2, List.length_reverse]
        rw [pops_len] at this
        omega
end Gram
